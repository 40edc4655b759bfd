/-! ===== SHOP: a CLAUSE, the class's side ===== -/
def cuS (T : Int → Int) (N c : Int) : Nat → Int
  | 0 => c
  | i + 1 => sc (dgT T) N (sc (blT T) N (cuS T N c i))
def vaS (T : Int → Int) (N c : Int) (i : Nat) : Int := nuV T N (sc (blT T) N (cuS T N c i))
theorem cuS_bd {T : Int → Int} {N c : Int} (h : 0 ≤ c ∧ c ≤ N) : ∀ i : Nat, 0 ≤ cuS T N c i ∧ cuS T N c i ≤ N
  | 0 => h
  | i + 1 => by
    have ih := cuS_bd (T := T) h i
    have h1 := sc_bd (P := blT T) ih.2
    have h2 := sc_bd (P := dgT T) h1.2
    show 0 ≤ sc (dgT T) N (sc (blT T) N (cuS T N c i)) ∧ sc (dgT T) N (sc (blT T) N (cuS T N c i)) ≤ N
    omega
def loK (x : Int) (i : Nat) : Int := cval 3 (x * 4 + i)
def hiK (x : Int) (D : Nat → Int → Int) (v0 : Int) (i : Nat) : Int := if x = 1 then (if i = 0 then D 4 0 - 1 else if 0 ≤ v0 ∧ v0 < D 4 0 then D 0 v0 - 1 else -1) else cval 4 (x * 4 + i)
def amS (T : Int → Int) (N c x : Int) (D : Nat → Int → Int) (i : Nat) : Int := amF T N (loK x i) (hiK x D (vaS T N c 0) i) (sc (blT T) N (cuS T N c i))
def fFS (T : Int → Int) (N c x : Int) (D : Nat → Int → Int) : Nat → Int
  | 0 => 0
  | i + 1 => if fFS T N c x D i = 0 then amS T N c x D i else fFS T N c x D i
def nbK (x : Int) : Nat := (cval 2 x).toNat
theorem kinds7 {x : Int} (h : 0 ≤ x ∧ x ≤ 6) : x = 0 ∨ x = 1 ∨ x = 2 ∨ x = 3 ∨ x = 4 ∨ x = 5 ∨ x = 6 := by omega
theorem tab_dec : ∀ x : Nat, x < 7 → (1 ≤ cval 2 (x : Int) ∧ cval 2 (x : Int) ≤ 4) ∧ (1 ≤ cval 1 (x : Int) ∧ cval 1 (x : Int) ≤ 16) ∧ ∀ i : Nat, i < 4 → (0 ≤ cval 3 ((x : Int) * 4 + (i : Int)) ∧ cval 3 ((x : Int) * 4 + (i : Int)) ≤ 999) ∧ (0 ≤ cval 4 ((x : Int) * 4 + (i : Int)) ∧ cval 4 ((x : Int) * 4 + (i : Int)) ≤ 999) := by decide +kernel
theorem tab_ok {x : Int} (h : 0 ≤ x ∧ x ≤ 6) : ((1 ≤ cval 2 x ∧ cval 2 x ≤ 4) ∧ (cval 2 x = (nbK x : Int))) ∧ (1 ≤ cval 1 x ∧ cval 1 x ≤ 16) ∧ ∀ i : Nat, i < 4 → (0 ≤ cval 3 (x * 4 + (i : Int)) ∧ cval 3 (x * 4 + (i : Int)) ≤ 999) ∧ (0 ≤ cval 4 (x * 4 + (i : Int)) ∧ cval 4 (x * 4 + (i : Int)) ≤ 999) := by
  obtain ⟨n, rfl⟩ : ∃ n : Nat, x = (n : Int) := ⟨x.toNat, by omega⟩
  obtain ⟨h1, h2, h3⟩ := tab_dec n (by omega)
  exact ⟨⟨h1, by unfold nbK; omega⟩, h2, h3⟩
def kpD (k n : Int) (va : Nat → Int) (D : Nat → Int → Int) : Nat → Int → Int := fun j =>
  if k = 0 then (if j = 0 then uA (D 0) n (va 0) else if j = 1 then uA (D 1) n (va 1) else if j = 2 then uA (D 2) n (va 2) else if j = 3 then uA (D 3) n (va 3) else if j = 4 then uA (D 4) 0 (n + 1) else D j)
  else if k = 1 then (if j = 5 then uA (D 5) n (va 0) else if j = 6 then uA (D 6) n (va 1) else if j = 7 then uA (D 7) 0 (n + 1) else D j)
  else if k = 2 then (if j = 8 then uA (D 8) 0 (va 0) else D j)
  else if k = 3 then (if j = 9 then uA (D 9) 0 (va 0) else D j)
  else if k = 4 then (if j = 10 then uA (D 10) 0 (va 0) else D j)
  else if k = 5 then (if j = 11 then uA (D 11) n (va 0) else if j = 12 then uA (D 12) n (va 1) else if j = 13 then uA (D 13) n (va 2) else if j = 14 then uA (D 14) 0 (n + 1) else D j)
  else (if j = 15 then uA (D 15) 0 (va 0) else if j = 16 then uA (D 16) 0 (va 1) else D j)
/-- one row of an object behind a write -/
theorem upd_row {s t : Mem} {o j : Nat} {i v : Int} {D : Nat → Int → Int} (h : t = updM s o j i v) (hD : s o = D) : t o = fun j' => if j' = j then uA (D j) i v else D j' := by
  obtain ⟨a1, a2, a3⟩ := updM_f h
  funext j'
  by_cases q : j' = j
  · subst q
    rw [if_pos rfl, a3, hD]
  · rw [if_neg q, a2 j' q, hD]
theorem p_sr_keep {k n : Int} {va : Nat → Int} {s : Mem} {Q : Mem → Prop} (hk : 0 ≤ k ∧ k ≤ 6) (hn : 0 ≤ n ∧ n < cval 1 k) (hv : ∀ i : Nat, i < nbK k → s 20 1 (i : Int) = va i) (h : ∀ t, (∀ o, ¬ o = 21 → t o = s o) → t 21 = kpD k n va (s 21) → Q t) : W_sr_keep k n s Q := by
  refine w_sr_keep (b_sr_keep_0 ?_)
  have e16 : n < 16 := by
    have := (tab_ok hk).2.1
    omega
  unfold T_sr_keep_0
  rw [wr_id (x := k) (by omega) (by omega)]
  refine ⟨⟨fun q => ?_, fun q => ?_, fun q => ?_, fun q => ?_, fun q => ?_, fun q => ?_, trivial⟩, fun q => ?_⟩
  · subst q
    have c1 : cval 1 0 = 12 := rfl
    have v0 := hv 0 (by decide)
    have v1 := hv 1 (by decide)
    have v2 := hv 2 (by decide)
    have v3 := hv 3 (by decide)
    unfold T_sr_keep_40 T_sr_keep_288
    rw [wr_id (x := n) (by omega) (by omega)]
    refine ⟨by omega, fun s1 x1 => ⟨by omega, fun s2 x2 => ⟨by omega, fun s3 x3 => ⟨by omega, fun s4 x4 s5 x5 => ?_⟩⟩⟩⟩
    obtain ⟨a1, a2, a3⟩ := updM_f x1
    obtain ⟨b1, b2, b3⟩ := updM_f x2
    obtain ⟨c1, c2, c3⟩ := updM_f x3
    obtain ⟨d1, d2, d3⟩ := updM_f x4
    obtain ⟨e1, e2, e3⟩ := updM_f x5
    have v0 : s 20 1 0 = va 0 := v0
    have v1 : s 20 1 1 = va 1 := v1
    have v2 : s 20 1 2 = va 2 := v2
    have v3 : s 20 1 3 = va 3 := v3
    rw [v0] at a3
    rw [a1 20 (by omega), v1] at b3
    rw [b1 20 (by omega), a1 20 (by omega), v2] at c3
    rw [c1 20 (by omega), b1 20 (by omega), a1 20 (by omega), v3] at d3
    refine h s5 (fun o q => by rw [e1 o q, d1 o q, c1 o q, b1 o q, a1 o q]) ?_
    funext j
    unfold kpD
    rw [if_pos rfl]
    by_cases j0 : j = 0
    · subst j0; rw [if_pos rfl, e2 0 (by omega), d2 0 (by omega), c2 0 (by omega), b2 0 (by omega), a3]
    · rw [if_neg j0]
      by_cases j1 : j = 1
      · subst j1; rw [if_pos rfl, e2 1 (by omega), d2 1 (by omega), c2 1 (by omega), b3, a2 1 (by omega)]
      · rw [if_neg j1]
        by_cases j2 : j = 2
        · subst j2; rw [if_pos rfl, e2 2 (by omega), d2 2 (by omega), c3, b2 2 (by omega), a2 2 (by omega)]
        · rw [if_neg j2]
          by_cases j3 : j = 3
          · subst j3; rw [if_pos rfl, e2 3 (by omega), d3, c2 3 (by omega), b2 3 (by omega), a2 3 (by omega)]
          · rw [if_neg j3]
            by_cases j4 : j = 4
            · subst j4; rw [if_pos rfl, e3, d2 4 (by omega), c2 4 (by omega), b2 4 (by omega), a2 4 (by omega)]
            · rw [if_neg j4, e2 j j4, d2 j j3, c2 j j2, b2 j j1, a2 j j0]
  · subst q
    have c1 : cval 1 1 = 16 := rfl
    have v0 : s 20 1 0 = va 0 := hv 0 (by decide)
    have v1 : s 20 1 1 = va 1 := hv 1 (by decide)
    unfold T_sr_keep_113 T_sr_keep_288
    rw [wr_id (x := n) (by omega) (by omega)]
    refine ⟨by omega, fun s1 x1 => ⟨by omega, fun s2 x2 s3 x3 => ?_⟩⟩
    obtain ⟨a1, a2, a3⟩ := updM_f x1
    obtain ⟨b1, b2, b3⟩ := updM_f x2
    obtain ⟨c1, c2, c3⟩ := updM_f x3
    rw [v0] at a3
    rw [a1 20 (by omega), v1] at b3
    refine h s3 (fun o q => by rw [c1 o q, b1 o q, a1 o q]) ?_
    funext j
    unfold kpD
    rw [if_neg (by decide), if_pos rfl]
    by_cases j0 : j = 5
    · subst j0; rw [if_pos rfl, c2 5 (by omega), b2 5 (by omega), a3]
    · rw [if_neg j0]
      by_cases j1 : j = 6
      · subst j1; rw [if_pos rfl, c2 6 (by omega), b3, a2 6 (by omega)]
      · rw [if_neg j1]
        by_cases j2 : j = 7
        · subst j2; rw [if_pos rfl, c3, b2 7 (by omega), a2 7 (by omega)]
        · rw [if_neg j2, c2 j j2, b2 j j1, a2 j j0]
  · subst q
    have v0 : s 20 1 0 = va 0 := hv 0 (by decide)
    unfold T_sr_keep_156 T_sr_keep_288
    intro s1 x1
    obtain ⟨a1, a2, a3⟩ := updM_f x1
    rw [v0] at a3
    refine h s1 a1 ?_
    funext j
    unfold kpD
    rw [if_neg (by decide), if_neg (by decide), if_pos rfl]
    by_cases j0 : j = 8
    · subst j0; rw [if_pos rfl, a3]
    · rw [if_neg j0, a2 j j0]
  · subst q
    have v0 : s 20 1 0 = va 0 := hv 0 (by decide)
    unfold T_sr_keep_172 T_sr_keep_288
    intro s1 x1
    obtain ⟨a1, a2, a3⟩ := updM_f x1
    rw [v0] at a3
    refine h s1 a1 ?_
    funext j
    unfold kpD
    rw [if_neg (by decide), if_neg (by decide), if_neg (by decide), if_pos rfl]
    by_cases j0 : j = 9
    · subst j0; rw [if_pos rfl, a3]
    · rw [if_neg j0, a2 j j0]
  · subst q
    have v0 : s 20 1 0 = va 0 := hv 0 (by decide)
    unfold T_sr_keep_188 T_sr_keep_288
    intro s1 x1
    obtain ⟨a1, a2, a3⟩ := updM_f x1
    rw [v0] at a3
    refine h s1 a1 ?_
    funext j
    unfold kpD
    rw [if_neg (by decide), if_neg (by decide), if_neg (by decide), if_neg (by decide), if_pos rfl]
    by_cases j0 : j = 10
    · subst j0; rw [if_pos rfl, a3]
    · rw [if_neg j0, a2 j j0]
  · subst q
    have c1 : cval 1 5 = 8 := rfl
    have v0 : s 20 1 0 = va 0 := hv 0 (by decide)
    have v1 : s 20 1 1 = va 1 := hv 1 (by decide)
    have v2 : s 20 1 2 = va 2 := hv 2 (by decide)
    unfold T_sr_keep_204 T_sr_keep_288
    rw [wr_id (x := n) (by omega) (by omega)]
    refine ⟨by omega, fun s1 x1 => ⟨by omega, fun s2 x2 => ⟨by omega, fun s3 x3 s4 x4 => ?_⟩⟩⟩
    obtain ⟨a1, a2, a3⟩ := updM_f x1
    obtain ⟨b1, b2, b3⟩ := updM_f x2
    obtain ⟨c1, c2, c3⟩ := updM_f x3
    obtain ⟨d1, d2, d3⟩ := updM_f x4
    rw [v0] at a3
    rw [a1 20 (by omega), v1] at b3
    rw [b1 20 (by omega), a1 20 (by omega), v2] at c3
    refine h s4 (fun o q => by rw [d1 o q, c1 o q, b1 o q, a1 o q]) ?_
    funext j
    unfold kpD
    rw [if_neg (by decide), if_neg (by decide), if_neg (by decide), if_neg (by decide), if_neg (by decide), if_pos rfl]
    by_cases j0 : j = 11
    · subst j0; rw [if_pos rfl, d2 11 (by omega), c2 11 (by omega), b2 11 (by omega), a3]
    · rw [if_neg j0]
      by_cases j1 : j = 12
      · subst j1; rw [if_pos rfl, d2 12 (by omega), c2 12 (by omega), b3, a2 12 (by omega)]
      · rw [if_neg j1]
        by_cases j2 : j = 13
        · subst j2; rw [if_pos rfl, d2 13 (by omega), c3, b2 13 (by omega), a2 13 (by omega)]
        · rw [if_neg j2]
          by_cases j3 : j = 14
          · subst j3; rw [if_pos rfl, d3, c2 14 (by omega), b2 14 (by omega), a2 14 (by omega)]
          · rw [if_neg j3, d2 j j3, c2 j j2, b2 j j1, a2 j j0]
  · have e : k = 6 := by omega
    subst e
    have v0 : s 20 1 0 = va 0 := hv 0 (by decide)
    have v1 : s 20 1 1 = va 1 := hv 1 (by decide)
    unfold T_sr_keep_262 T_sr_keep_288
    intro s1 x1 s2 x2
    obtain ⟨a1, a2, a3⟩ := updM_f x1
    obtain ⟨b1, b2, b3⟩ := updM_f x2
    rw [v0] at a3
    rw [a1 20 (by omega), v1] at b3
    refine h s2 (fun o q => by rw [b1 o q, a1 o q]) ?_
    funext j
    unfold kpD
    rw [if_neg (by decide), if_neg (by decide), if_neg (by decide), if_neg (by decide), if_neg (by decide), if_neg (by decide)]
    by_cases j0 : j = 15
    · subst j0; rw [if_pos rfl, b2 15 (by omega), a3]
    · rw [if_neg j0]
      by_cases j1 : j = 16
      · subst j1; rw [if_pos rfl, b3, a2 16 (by omega)]
      · rw [if_neg j1, b2 j j1, a2 j j0]
def kws : List (List Int) := [cvL.getD 23 [], cvL.getD 25 [], cvL.getD 27 [], cvL.getD 29 [], cvL.getD 31 [], cvL.getD 33 [], cvL.getD 35 []]
theorem kws_j : cvL.getD (10 + 1) [] = joinW kws := by decide +kernel
theorem kws_n : ∀ w, w ∈ kws → ∀ c, c ∈ w → ¬ c = 32 := by decide +kernel
/-- a CLAUSE, in words -/
def clC (T : Int → Int) (N : Int) (full : Bool) (p : Int) (D : Nat → Int → Int) (tl : Int → Int) (r p' : Int) (D' : Nat → Int → Int) (tl' : Int → Int) : Prop :=
  ∃ x, fw T (sc (ltT T) N (sc (blT T) N p)) (sc (blT T) N p) kws 0 x ∧
    ((x = -1 ∧ r = 1 + 8 * sc (blT T) N p) ∨
     ((0 ≤ x ∧ x ≤ 6) ∧ (full = true ∨ cval 1 x ≤ tl x) ∧ r = 1 + 8 * sc (blT T) N p + 4) ∨
     ((0 ≤ x ∧ x ≤ 6) ∧ ¬ (full = true ∨ cval 1 x ≤ tl x) ∧ r = fFS T N (sc (ltT T) N (sc (blT T) N p)) x D (nbK x) ∧
       (r = 0 → p' = cuS T N (sc (ltT T) N (sc (blT T) N p)) (nbK x) ∧ D' = kpD x (tl x) (vaS T N (sc (ltT T) N (sc (blT T) N p))) D ∧ tl' = uA tl x (tl x + 1))))
