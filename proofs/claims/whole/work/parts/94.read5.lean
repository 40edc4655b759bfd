/-! ===== RULE: what is entered can be worked out ===== -/
theorem chk_app : ∀ (l l' : List Int) (t : List Bool), chk (l ++ l') t = (chk l t).bind (chk l')
  | [], _, _ => rfl
  | k :: r, l', t => by
    show (chk1 k t).bind (chk (r ++ l')) = ((chk1 k t).bind (chk r)).bind (chk l')
    cases chk1 k t with
    | none => rfl
    | some u => exact chk_app r l' u
def kds (E : List (Int × Int)) : List Int := E.map (fun e => e.1)
theorem kds_app (E F : List (Int × Int)) : kds (E ++ F) = kds E ++ kds F := List.map_append
theorem chk_two {E F : List (Int × Int)} {t u w : List Bool} (h : chk (kds E) t = some u) (h2 : chk (kds F) u = some w) : chk (kds (E ++ F)) t = some w := by
  rw [kds_app, chk_app, h]
  exact h2
theorem chk_push {e : Int × Int} {t : List Bool} (he : e.1 = 0 ∨ e.1 = 1) (ht : t.length < 40) : chk (kds [e]) t = some (false :: t) := by
  show (chk1 e.1 t).bind (chk []) = _
  unfold chk1
  rw [if_pos he, if_pos ht]
  rfl
theorem chk_bin {k y : Int} {t : List Bool} (hk : 2 ≤ k ∧ k ≤ 6) : chk (kds [(k, y)]) (false :: false :: t) = some (false :: t) := by
  show (chk1 k (false :: false :: t)).bind (chk []) = _
  unfold chk1
  rw [if_neg (by omega), if_pos hk.2]
  rfl
theorem chk_cmp {k y : Int} {t : List Bool} (hk : 7 ≤ k ∧ k ≤ 11) : chk (kds [(k, y)]) (false :: false :: t) = some (true :: t) := by
  show (chk1 k (false :: false :: t)).bind (chk []) = _
  unfold chk1
  rw [if_neg (by omega), if_neg (by omega), if_pos hk.2]
  rfl
theorem chk_not {y : Int} {t : List Bool} : chk (kds [(12, y)]) (true :: t) = some (true :: t) := rfl
theorem chk_join {k y : Int} {t : List Bool} (hk : k = 13 ∨ k = 14) : chk (kds [(k, y)]) (true :: true :: t) = some (true :: t) := by
  rcases hk with q | q <;> subst q <;> rfl
/-- a pile's values for an entry that waits -/
def wf (a : Int) : List Bool := if a = -1 then [] else [false]
theorem chk_opE {a : Int} {t : List Bool} (ha : a = -1 ∨ (2 ≤ a ∧ a ≤ 6)) : chk (kds (opE a)) (false :: (wf a ++ t)) = some (false :: t) := by
  unfold opE wf
  by_cases q : a = -1
  · rw [if_pos q, if_pos q]; rfl
  · rw [if_neg q, if_neg q]
    exact chk_bin (by omega)
/-- what an entry may be -/
def enB (e : Int × Int) : Prop := (0 ≤ e.1 ∧ e.1 ≤ 14) ∧ (0 ≤ e.2 ∧ e.2 ≤ 99999) ∧ (e.1 = 1 → e.2 < 9)
def enA (E : List (Int × Int)) : Prop := ∀ e, e ∈ E → enB e
theorem enA_app {E F : List (Int × Int)} (h : enA E) (h2 : enA F) : enA (E ++ F) := fun e he => (List.mem_append.mp he).elim (h e) (h2 e)
theorem enA_1 {k : Int} (hk : 2 ≤ k ∧ k ≤ 14) : enA [(k, 0)] := fun e he => by
  rw [List.mem_singleton] at he
  subst he
  exact ⟨by show 0 ≤ k ∧ k ≤ 14; omega, by show (0 : Int) ≤ 0 ∧ (0 : Int) ≤ 99999; omega, fun z => by have z : k = 1 := z; omega⟩
theorem enA_op {a : Int} (ha : a = -1 ∨ (2 ≤ a ∧ a ≤ 6)) : enA (opE a) := by
  unfold opE
  by_cases q : a = -1
  · rw [if_pos q]; exact fun e he => absurd he (by intro z; cases z)
  · rw [if_neg q]; exact enA_1 (by omega)
theorem smC_ok {T : Int → Int} {N : Int} : ∀ (f : Nat) (a1 a2 p c p' c' : Int) (E : List (Int × Int)), (0 ≤ p ∧ p ≤ N) → 0 ≤ c → (a1 = -1 ∨ a1 = 2 ∨ a1 = 3 ∨ a1 = 4) → (a2 = -1 ∨ a2 = 5 ∨ a2 = 6) → smC T N f a1 a2 p c 0 p' c' E →
    (c + 1 ≤ c' ∧ c' ≤ 60) ∧ (E.length : Int) = 2 * (c' - c) - 1 + pd a1 + pd a2 ∧ (0 ≤ p' ∧ p' ≤ N) ∧ sc (blT T) N p' = p' ∧ enA E ∧ ∀ t : List Bool, t.length ≤ 36 → chk (kds E) (wf a1 ++ (wf a2 ++ t)) = some (false :: t)
  | 0, _, _, _, _, _, _, _, _, _, _, _, h => absurd h id
  | f + 1, a1, a2, p, c, p', c', E, hp, hc, k1, k2, h => by
    obtain ⟨rv, pv, e, hv, h⟩ := h
    rcases h with ⟨h, h2⟩ | ⟨h0, h⟩
    · exact absurd h2.symm h
    · subst h0
      obtain ⟨v1, v2, v3, v4, v5⟩ := vlC_ok hp hv
      have hnb := sc_bd (P := blT T) v2.2
      have hbp := btw_pk (T := T) (N := N) (p := sc (blT T) N pv)
      have hss := sc_sc (P := blT T) v2.2
      generalize sc (blT T) N pv = b at h hnb hbp hss
      have ek1 : a1 = -1 ∨ (2 ≤ a1 ∧ a1 ≤ 6) := by omega
      have ek2 : a2 = -1 ∨ (2 ≤ a2 ∧ a2 ≤ 6) := by omega
      have l1 : ((e :: opE a1).length : Int) = 1 + pd a1 := by
        rw [List.length_cons, ← opE_len]
        omega
      have l2 := opE_len a2
      have en1 : enA (e :: opE a1) := enA_app (E := [e]) (fun x hx => by
        rw [List.mem_singleton] at hx
        subst hx
        exact ⟨by omega, v4, v5⟩) (enA_op ek1)
      have w1 : (wf a1).length ≤ 1 := by unfold wf; split <;> decide
      have w2 : (wf a2).length ≤ 1 := by unfold wf; split <;> decide
      have c1 : ∀ t : List Bool, t.length ≤ 36 → chk (kds (e :: opE a1)) (wf a1 ++ (wf a2 ++ t)) = some (false :: (wf a2 ++ t)) := fun t ht => by
        refine chk_two (E := [e]) (F := opE a1) (chk_push v3 ?_) (chk_opE ek1)
        rw [List.length_append, List.length_append]
        omega
      have c2 : ∀ t : List Bool, t.length ≤ 36 → chk (kds ((e :: opE a1) ++ opE a2)) (wf a1 ++ (wf a2 ++ t)) = some (false :: t) := fun t ht => chk_two (c1 t ht) (chk_opE ek2)
      rcases h with ⟨hb, E2, h, hE⟩ | ⟨hb, E2, h, hE⟩ | ⟨hb, _, hp', hc', hE⟩
      · have hbN := hbp (by omega)
        obtain ⟨i1, i2, i3, i4, i5, i6⟩ := smC_ok f _ a2 (b + 1) (c + 1) p' c' E2 (by omega) (by omega) (Or.inr hb) k2 h
        have pdb : pd (btw (pk T N b)) = 1 := if_neg (by omega)
        have wfb : wf (btw (pk T N b)) = [false] := if_neg (by omega)
        rw [pdb] at i2
        rw [wfb] at i6
        subst hE
        refine ⟨by omega, by rw [List.length_append]; omega, i3, i4, enA_app en1 i5, fun t ht => chk_two (c1 t ht) (i6 t ht)⟩
      · have hbN := hbp (by omega)
        obtain ⟨i1, i2, i3, i4, i5, i6⟩ := smC_ok f (-1) _ (b + 1) (c + 1) p' c' E2 (by omega) (by omega) (Or.inl rfl) (Or.inr hb) h
        have pdb : pd (btw (pk T N b)) = 1 := if_neg (by omega)
        have wfb : wf (btw (pk T N b)) = [false] := if_neg (by omega)
        have pdm : pd (-1) = 0 := rfl
        rw [pdb, pdm] at i2
        rw [wfb, show wf (-1) = [] from rfl] at i6
        subst hE
        refine ⟨by omega, by rw [List.length_append, List.length_append]; omega, i3, i4, enA_app (enA_app en1 (enA_op ek2)) i5, fun t ht => chk_two (c2 t ht) (i6 t ht)⟩
      · subst hp' hc' hE
        refine ⟨by omega, by rw [List.length_append]; omega, by omega, hss, enA_app en1 (enA_op ek2), c2⟩
/-- the truths that wait for a join -/
def jnb : List Int → List Bool
  | [] => []
  | x :: r => if x = 13 ∨ x = 14 then true :: jnb r else jnb r
theorem jnb_len : ∀ l : List Int, (jnb l).length ≤ l.length
  | [] => Nat.le_refl _
  | x :: r => by
    have ih := jnb_len r
    unfold jnb
    rw [List.length_cons]
    split
    · rw [List.length_cons]; omega
    · omega
theorem chk_enN : ∀ {l : List Int}, okT l → chk (kds (enN l)) (true :: jnb l) = some (true :: jnb (puN l)) ∧ enA (enN l)
  | [], _ => ⟨rfl, fun e he => absurd he (by intro z; cases z)⟩
  | x :: r, ok => by
    unfold enN puN
    by_cases q : x = 12
    · rw [if_pos q, if_pos q]
      have e : jnb (x :: r) = jnb r := by
        show (if x = 13 ∨ x = 14 then true :: jnb r else jnb r) = jnb r
        rw [if_neg (by omega)]
      rw [e]
      obtain ⟨i1, i2⟩ := chk_enN ok.1
      exact ⟨chk_two (E := [(12, 0)]) chk_not i1, enA_app (E := [(12, 0)]) (enA_1 (by omega)) i2⟩
    · rw [if_neg q, if_neg q]
      exact ⟨rfl, fun e he => absurd he (by intro z; cases z)⟩
theorem chk_enS {a : Bool} : ∀ {l : List Int}, okT l → chk (kds (enS a l)) (true :: jnb l) = some (true :: jnb (puS a l)) ∧ enA (enS a l)
  | [], _ => ⟨rfl, fun e he => absurd he (by intro z; cases z)⟩
  | x :: r, ok => by
    unfold enS puS
    by_cases q : x = 13 ∨ (a = true ∧ x = 14)
    · rw [if_pos q, if_pos q]
      have qx : x = 13 ∨ x = 14 := q.elim Or.inl (fun z => Or.inr z.2)
      have e : jnb (x :: r) = true :: jnb r := by
        show (if x = 13 ∨ x = 14 then true :: jnb r else jnb r) = true :: jnb r
        rw [if_pos qx]
      rw [e]
      obtain ⟨i1, i2⟩ := chk_enS (a := a) ok.1
      exact ⟨chk_two (E := [(x, 0)]) (chk_join qx) i1, enA_app (E := [(x, 0)]) (enA_1 (by omega)) i2⟩
    · rw [if_neg q, if_neg q]
      exact ⟨rfl, fun e he => absurd he (by intro z; cases z)⟩
theorem clsC_ok {T : Int → Int} {N : Int} : ∀ (f : Nat) (p p' : Int) (l l' : List Int) (E : List (Int × Int)), okT l → (0 ≤ p ∧ p ≤ N) → clsC T N f p l p' l' E → chk (kds E) (true :: jnb l) = some (true :: jnb l') ∧ enA E
  | 0, _, _, _, _, _, _, _, h => absurd h id
  | f + 1, p, p', l, l', E, ok, hp, h => by
    have hnb := sc_bd (P := blT T) hp.2
    obtain ⟨n1, n2⟩ := chk_enN ok
    have ok1 := (puN_ok ok).1
    rcases h with ⟨h1, h2, z, E2, h3, h4, h5⟩ | ⟨_, _, h2, h3⟩
    · have hbN := pkT_lt (T := T) (N := N) (p := sc (blT T) N p) (by omega)
      obtain ⟨s1, s2⟩ := chk_enS (a := true) ok1
      have ok2 := (puS_ok (a := true) ok1).1
      rw [h3] at s1 ok2
      obtain ⟨i1, i2⟩ := clsC_ok f _ p' z l' E2 ok2.1 (by omega) h4
      subst h5
      exact ⟨chk_two (chk_two n1 s1) i1, enA_app (enA_app n2 s2) i2⟩
    · subst h2 h3
      exact ⟨n1, n2⟩
theorem opC_ok {T : Int → Int} {N : Int} : ∀ (f : Nat) (p p' : Int) (l l' : List Int), (0 ≤ p ∧ p ≤ N) → opC T N f p l 0 p' l' → jnb l' = jnb l
  | 0, _, _, _, _, _, h => absurd h id
  | f + 1, p, p', l, l', hp, h => by
    have hnb := sc_bd (P := blT T) hp.2
    have hlt := sc_bd (P := ltT T) hnb.2
    rcases h with ⟨_, _, _, _, h⟩ | ⟨k, pn, hk, ⟨_, h⟩ | ⟨_, h⟩⟩
    · rw [h]
    · omega
    · have hpn : 0 ≤ pn ∧ pn ≤ N := by
        rcases hk with ⟨z, _, z2⟩ | ⟨_, _, _, z2⟩
        · have := pkT_lt (T := T) (N := N) (p := sc (blT T) N p) (by omega)
          omega
        · omega
      rw [opC_ok f pn p' (k :: l) l' hpn h]
      show (if k = 13 ∨ k = 14 then true :: jnb l else jnb l) = jnb l
      have : k = 12 ∨ k = 15 := hk.elim (fun z => Or.inr z.2.1) (fun z => Or.inl z.2.2.1)
      rw [if_neg (by omega)]
