/-! ===== the pile ===== -/
def TS : List Bool → List Int → Prop
  | [], [] => True
  | b :: ks, x :: t => (b = true → x = 0 ∨ x = 1) ∧ TS ks t
  | _, _ => False
def st1 (wd : Int → Int) (k v : Int) (t : List Int) : List Int :=
  if k = 0 then wr v :: t else if k = 1 then wd v :: t
  else if k = 12 then (match t with
    | x :: r => (1 - x) :: r
    | [] => [])
  else (match t with
    | y :: x :: r => jn k x y :: r
    | _ => t)
def evl (f wd : Int → Int) : Nat → Int → List Int → List Int
  | 0, _, t => t
  | n + 1, i, t => evl f wd n (i + 1) (st1 wd (f i % 16) (f i / 16) t)
def SM (f : Int → Int) : List Int → Prop
  | [] => True
  | x :: t => f (t.length : Int) = x ∧ SM f t
theorem SM_up {f : Int → Int} {i v : Int} : ∀ {t : List Int}, SM f t → (t.length : Int) ≤ i → SM (uA f i v) t
  | [], _, _ => trivial
  | x :: t, h, hi => by
    have e : ((x :: t).length : Int) = (t.length : Int) + 1 := by simp
    exact ⟨(uA_n f (by omega)).trans h.1, SM_up h.2 (by omega)⟩
theorem TS_len : ∀ {ks : List Bool} {t : List Int}, TS ks t → ks.length = t.length
  | [], [], _ => rfl
  | _ :: ks, _ :: t, h => by
    show ks.length + 1 = t.length + 1
    rw [TS_len h.2]
  | [], _ :: _, h => absurd h id
  | _ :: _, [], h => absurd h id
theorem kinds_1 {f : Int → Int} {a b : Int} (h : a < b) : kindsL f a b = (f a % 16) :: kindsL f (a + 1) b := by
  unfold kindsL
  rw [show (b - a).toNat = (b - (a + 1)).toNat + 1 by omega, List.range_succ_eq_map]
  simp only [List.map_cons, List.map_map, Int.natCast_zero, Int.add_zero]
  congr 1
  refine List.map_congr_left fun i _ => ?_
  show f (a + ((i + 1 : Nat) : Int)) % 16 = f (a + 1 + (i : Int)) % 16
  rw [show a + ((i + 1 : Nat) : Int) = a + 1 + (i : Int) by omega]
theorem kinds_0 {f : Int → Int} {a b : Int} (h : b ≤ a) : kindsL f a b = [] := by
  unfold kindsL
  rw [show (b - a).toNat = 0 by omega]
  rfl
theorem and01 {x y : Int} (hx : x = 0 ∨ x = 1) (hy : y = 0 ∨ y = 1) : bAndL x y = 0 ∨ bAndL x y = 1 := by
  rcases hx with q | q <;> rcases hy with z | z <;> subst q <;> subst z <;> decide
theorem or01 {x y : Int} (hx : x = 0 ∨ x = 1) (hy : y = 0 ∨ y = 1) : bOrL x y = 0 ∨ bOrL x y = 1 := by
  rcases hx with q | q <;> rcases hy with z | z <;> subst q <;> subst z <;> decide
/-- what a step needs of the pile, by its kind -/
def okK (k : Int) (t : List Int) : Prop := ((k = 0 ∨ k = 1) → t.length < 40) ∧ (k = 12 → ∃ x r, t = x :: r) ∧ (¬ (k = 0 ∨ k = 1 ∨ k = 12) → ∃ y x r, t = y :: x :: r)
theorem chk1_TS {wd : Int → Int} {k v : Int} {ks ks' : List Bool} {t : List Int} (hk : 0 ≤ k ∧ k ≤ 14) (hc : chk1 k ks = some ks') (h : TS ks t) : TS ks' (st1 wd k v t) ∧ okK k t := by
  have hl := TS_len h
  unfold chk1 at hc
  by_cases c0 : k = 0 ∨ k = 1
  · rw [if_pos c0] at hc
    by_cases c : ks.length < 40
    · rw [if_pos c] at hc
      cases hc
      refine ⟨?_, fun _ => by omega, fun q => by omega, fun q => by omega⟩
      unfold st1
      by_cases q : k = 0
      · rw [if_pos q]
        exact ⟨fun z => absurd z (by decide), h⟩
      · rw [if_neg q, if_pos (by omega)]
        exact ⟨fun z => absurd z (by decide), h⟩
    · rw [if_neg c] at hc
      cases hc
  rw [if_neg c0] at hc
  have e0 : ∀ {A : List Int}, st1 wd k v t = A → ∀ {P : Prop}, (TS ks' A ∧ P) → TS ks' (st1 wd k v t) ∧ P := fun e _ h => by rw [e]; exact h
  by_cases c1 : k ≤ 6
  · rw [if_pos c1] at hc
    match ks, t, h, hc with
    | false :: false :: r, y :: x :: t, h, hc =>
      cases hc
      refine ⟨?_, fun q => absurd q c0, fun q => by omega, fun _ => ⟨y, x, t, rfl⟩⟩
      unfold st1
      rw [if_neg (by omega), if_neg (by omega), if_neg (by omega)]
      exact ⟨fun z => absurd z (by decide), h.2.2⟩
    | false :: false :: _, _ :: [], h, _ => exact absurd h.2 id
    | false :: false :: _, [], h, _ => exact absurd h id
    | [], _, _, hc => cases hc
    | [_], _, _, hc => (revert hc; cases ‹Bool› <;> (intro hc; cases hc))
    | true :: _ :: _, _, _, hc => cases hc
    | false :: true :: _, _, _, hc => cases hc
  rw [if_neg c1] at hc
  by_cases c2 : k ≤ 11
  · rw [if_pos c2] at hc
    match ks, t, h, hc with
    | false :: false :: r, y :: x :: t, h, hc =>
      cases hc
      refine ⟨?_, fun q => absurd q c0, fun q => by omega, fun _ => ⟨y, x, t, rfl⟩⟩
      unfold st1
      rw [if_neg (by omega), if_neg (by omega), if_neg (by omega)]
      refine ⟨fun _ => ?_, h.2.2⟩
      unfold jn
      rw [if_neg (by omega), if_neg (by omega), if_neg (by omega), if_neg (by omega), if_neg (by omega)]
      by_cases k7 : k = 7
      · rw [if_pos k7]
        exact b2_01 _
      rw [if_neg k7]
      by_cases k8 : k = 8
      · rw [if_pos k8]
        exact b2_01 _
      rw [if_neg k8]
      by_cases k9 : k = 9
      · rw [if_pos k9]
        exact b2_01 _
      rw [if_neg k9]
      by_cases k10 : k = 10
      · rw [if_pos k10]
        exact b2_01 _
      rw [if_neg k10, if_pos (by omega)]
      exact b2_01 _
    | false :: false :: _, _ :: [], h, _ => exact absurd h.2 id
    | false :: false :: _, [], h, _ => exact absurd h id
    | [], _, _, hc => cases hc
    | [_], _, _, hc => (revert hc; cases ‹Bool› <;> (intro hc; cases hc))
    | true :: _ :: _, _, _, hc => cases hc
    | false :: true :: _, _, _, hc => cases hc
  rw [if_neg c2] at hc
  by_cases c3 : k = 12
  · rw [if_pos c3] at hc
    match ks, t, h, hc with
    | true :: r, x :: t, h, hc =>
      cases hc
      refine ⟨?_, fun q => absurd q c0, fun _ => ⟨x, t, rfl⟩, fun q => absurd (Or.inr (Or.inr c3)) q⟩
      unfold st1
      rw [if_neg (by omega), if_neg (by omega), if_pos c3]
      exact ⟨fun _ => by rcases h.1 rfl with q | q <;> omega, h.2⟩
    | true :: _, [], h, _ => exact absurd h id
    | [], _, _, hc => cases hc
    | false :: _, _, _, hc => cases hc
  rw [if_neg c3] at hc
  match ks, t, h, hc with
  | true :: true :: r, y :: x :: t, h, hc =>
    cases hc
    refine ⟨?_, fun q => absurd q c0, fun q => absurd q c3, fun _ => ⟨y, x, t, rfl⟩⟩
    unfold st1
    rw [if_neg (by omega), if_neg (by omega), if_neg (by omega)]
    refine ⟨fun _ => ?_, h.2.2⟩
    unfold jn
    rw [if_neg (by omega), if_neg (by omega), if_neg (by omega), if_neg (by omega), if_neg (by omega), if_neg (by omega), if_neg (by omega), if_neg (by omega), if_neg (by omega), if_neg (by omega)]
    by_cases k13 : k = 13
    · rw [if_pos k13]
      exact and01 (h.2.1 rfl) (h.1 rfl)
    · rw [if_neg k13]
      exact or01 (h.2.1 rfl) (h.1 rfl)
  | true :: true :: _, _ :: [], h, _ => exact absurd h.2 id
  | true :: true :: _, [], h, _ => exact absurd h id
  | [], _, _, hc => cases hc
  | [_], _, _, hc => (revert hc; cases ‹Bool› <;> (intro hc; cases hc))
  | false :: _ :: _, _, _, hc => cases hc
  | true :: false :: _, _, _, hc => cases hc
