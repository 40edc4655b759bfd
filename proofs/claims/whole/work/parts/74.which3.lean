/-! ===== WHICH: the BALES that have something ===== -/
def few (f : Int → Int) : Nat → Option (Nat × ((Int → Int) × (Int → Int)))
  | 0 => some (0, (fun _ => -1, fun _ => 0))
  | b + 1 => (few f b).bind (fun q => if f (b : Int) = 0 then some q else if 3 ≤ q.1 ∨ 40 < f (b : Int) then none else some (q.1 + 1, (uA q.2.1 (q.1 : Int) (b : Int), uA q.2.2 (q.1 : Int) (f (b : Int)))))
theorem few_none {f : Int → Int} {b : Nat} (h : few f b = none) : ∀ c, b ≤ c → few f c = none := by
  intro c hc
  obtain ⟨d, rfl⟩ : ∃ d, c = b + d := ⟨c - b, by omega⟩
  induction d with
  | zero => exact h
  | succ d ih =>
    show (few f (b + d)).bind _ = none
    rw [ih (by omega)]
    rfl
theorem few_s {f : Int → Int} {b : Nat} {q : Nat × ((Int → Int) × (Int → Int))} (h : few f b = some q) : few f (b + 1) = if f (b : Int) = 0 then some q else if 3 ≤ q.1 ∨ 40 < f (b : Int) then none else some (q.1 + 1, (uA q.2.1 (q.1 : Int) (b : Int), uA q.2.2 (q.1 : Int) (f (b : Int)))) := by
  show (few f b).bind _ = _
  rw [h]
  rfl
theorem few_c {f g : Int → Int} : ∀ b : Nat, (∀ k : Nat, k < b → f (k : Int) = g (k : Int)) → few f b = few g b
  | 0, _ => rfl
  | b + 1, h => by
    show (few f b).bind _ = (few g b).bind _
    rw [few_c b (fun k hk => h k (by omega)), h b (by omega)]
theorem few_ok {f : Int → Int} : ∀ (b : Nat) (q : Nat × ((Int → Int) × (Int → Int))), (∀ k : Nat, k < b → 0 ≤ f (k : Int)) → few f b = some q → q.1 ≤ 3 ∧ (∀ i : Int, 0 ≤ i → i < q.1 → (0 ≤ q.2.1 i ∧ q.2.1 i < b) ∧ 1 ≤ q.2.2 i ∧ q.2.2 i ≤ 40) ∧ ∀ i : Int, q.1 ≤ i → q.2.2 i = 0
  | 0, q, _, h => by
    have e : (0, ((fun _ => -1 : Int → Int), (fun _ => 0 : Int → Int))) = q := Option.some.inj h
    subst e
    exact ⟨by decide, fun i i0 i1 => absurd i1 (by show ¬ i < ((0 : Nat) : Int); omega), fun i _ => rfl⟩
  | b + 1, q, hf, h => by
    cases e : few f b with
    | none => rw [few_none e (b + 1) (by omega)] at h; cases h
    | some r =>
      obtain ⟨h1, h2, h3⟩ := few_ok b r (fun k hk => hf k (by omega)) e
      rw [few_s e] at h
      by_cases c1 : f (b : Int) = 0
      · rw [if_pos c1] at h
        cases h
        exact ⟨h1, fun i i0 i1 => by have := h2 i i0 i1; omega, h3⟩
      · rw [if_neg c1] at h
        by_cases c2 : 3 ≤ r.1 ∨ 40 < f (b : Int)
        · rw [if_pos c2] at h
          cases h
        · rw [if_neg c2] at h
          cases h
          have hfb := hf b (by omega)
          refine ⟨by show r.1 + 1 ≤ 3; omega, fun i i0 i1 => ?_, fun i i0 => ?_⟩
          · have i1 : i < ((r.1 + 1 : Nat) : Int) := i1
            show (0 ≤ uA r.2.1 (r.1 : Int) (b : Int) i ∧ uA r.2.1 (r.1 : Int) (b : Int) i < ((b + 1 : Nat) : Int)) ∧ 1 ≤ uA r.2.2 (r.1 : Int) (f (b : Int)) i ∧ uA r.2.2 (r.1 : Int) (f (b : Int)) i ≤ 40
            by_cases z : i = (r.1 : Int)
            · rw [uA_e _ z, uA_e _ z]; omega
            · rw [uA_n _ z, uA_n _ z]
              have := h2 i i0 (by omega)
              omega
          · have i0 : ((r.1 + 1 : Nat) : Int) ≤ i := i0
            show uA r.2.2 (r.1 : Int) (f (b : Int)) i = 0
            rw [uA_n _ (by omega)]
            exact h3 i (by omega)
theorem p_wp_takesBales {nb : Nat} {s : Mem} {Q : Int → Mem → Prop} (eb : s 3 4 0 = (nb : Int)) (hnb : nb ≤ 12) (hf : ∀ k : Nat, k < nb → 0 ≤ s 3 0 (k : Int) ∧ s 3 0 (k : Int) ≤ 480)
    (h0 : few (s 3 0) nb = none → ∀ t, (∀ o, ¬ o = 26 → t o = s o) → Q 0 t) (h1 : ∀ q, few (s 3 0) nb = some q → ∀ t, (∀ o, ¬ o = 26 → t o = s o) → t 26 2 0 = s 3 8 0 → (∀ i : Int, 0 ≤ i → i < 3 → t 26 0 i = q.2.1 i ∧ t 26 1 i = q.2.2 i) → Q 1 t) : W_wp_takesBales 3 s Q := by
  refine w_wp_takesBales (b_wp_takesBales_0 rfl ?_)
  intro s1 x1
  obtain ⟨a1, a2, a3⟩ := updM_f x1
  have walk : ∀ d b : Nat, nb - b = d → b ≤ nb → ∀ (q : Nat × ((Int → Int) × (Int → Int))) (t : Mem), few (s 3 0) b = some q → (∀ o, ¬ o = 26 → t o = s o) → t 26 2 0 = s 3 8 0 → (∀ i : Int, 0 ≤ i → i < 3 → t 26 0 i = q.2.1 i ∧ t 26 1 i = q.2.2 i) → K_wp_takesBales_39 Q 3 (q.1 : Int) (b : Int) t := by
    intro d
    induction d with
    | zero =>
      intro b hd hb q t hq ho h2 hv
      have e : b = nb := by omega
      subst e
      refine b_wp_takesBales_39 rfl ?_
      unfold T_wp_takesBales_39 T_wp_takesBales_105
      rw [ho 3 (by omega), eb, wr_id (x := (b : Int)) (by omega) (by omega)]
      exact ⟨fun _ => h1 q hq t ho h2 hv, fun z => by omega⟩
    | succ d ih =>
      intro b hd hb q t hq ho h2 hv
      obtain ⟨q3, -, -⟩ := few_ok b q (fun k hk => (hf k (by omega)).1) hq
      have hfb := hf b (by omega)
      have hs := few_s hq
      refine b_wp_takesBales_39 rfl ?_
      unfold T_wp_takesBales_39 T_wp_takesBales_99 T_wp_takesBales_59 T_wp_takesBales_75 T_wp_takesBales_77 T_wp_takesBales_99
      rw [ho 3 (by omega), eb, wr_id (x := (nb : Int)) (by omega) (by omega), wr_id (x := (b : Int)) (by omega) (by omega), wr_id (x := s 3 0 (b : Int)) (by omega) (by omega), wr_id (x := (q.1 : Int)) (by omega) (by omega)]
      have ih := ih (b + 1) (by omega) (by omega)
      rw [show ((b + 1 : Nat) : Int) = (b : Int) + 1 by omega] at ih
      have bad : ¬ s 3 0 (b : Int) = 0 → (3 ≤ q.1 ∨ 40 < s 3 0 (b : Int)) → Q 0 t := fun c1 c2 => by
        rw [if_neg c1, if_pos c2] at hs
        exact h0 (few_none hs nb (by omega)) t ho
      refine ⟨fun z => by omega, fun _ => ⟨by omega, fun c1 => ⟨fun c2 => bad c1 (by omega), fun c2 => ⟨by omega, fun c3 => ⟨by omega, fun s2 x2 => ?_⟩, fun c3 => bad c1 (by omega)⟩⟩, fun c1 => ?_⟩⟩
      · obtain ⟨b1, b2, b3⟩ := updM_f x2
        rw [b1 3 (by omega), ho 3 (by omega)]
        refine ⟨by omega, by omega, fun s3 x3 => ?_⟩
        obtain ⟨d1, d2, d3⟩ := updM_f x3
        rw [if_neg c1, if_neg (by omega)] at hs
        have := ih _ s3 hs (fun o q => by rw [d1 o q, b1 o q, ho o q]) (by rw [d2 2 (by omega), b2 2 (by omega)]; exact h2) (fun i i0 i1 => by
          show s3 26 0 i = uA q.2.1 (q.1 : Int) (b : Int) i ∧ s3 26 1 i = uA q.2.2 (q.1 : Int) (s 3 0 (b : Int)) i
          rw [d2 0 (by omega), b3, d3, b2 1 (by omega)]
          obtain ⟨v1, v2⟩ := hv i i0 i1
          by_cases z : i = (q.1 : Int)
          · rw [uA_e _ z, uA_e _ z, uA_e _ z, uA_e _ z]
            exact ⟨rfl, rfl⟩
          · rw [uA_n _ z, uA_n _ z, uA_n _ z, uA_n _ z]
            exact ⟨v1, v2⟩)
        exact this
      · rw [if_pos (by omega)] at hs
        exact ih q t hs ho h2 hv
  have init : ∀ d i : Nat, 3 - i = d → i ≤ 3 → ∀ t : Mem, (∀ o, ¬ o = 26 → t o = s o) → t 26 2 0 = s 3 8 0 → (∀ x : Int, 0 ≤ x → x < i → t 26 0 x = -1 ∧ t 26 1 x = 0) → K_wp_takesBales_12 Q 3 0 (i : Int) t := by
    intro d
    induction d with
    | zero =>
      intro i hd hi t ho h2 hv
      refine b_wp_takesBales_12 rfl ?_
      unfold T_wp_takesBales_12 T_wp_takesBales_37
      rw [wr_id (x := (i : Int)) (by omega) (by omega)]
      refine ⟨fun _ => ?_, fun z => by omega⟩
      exact walk nb 0 (by omega) (by omega) _ t rfl ho h2 (fun x x0 x1 => hv x x0 (by omega))
    | succ d ih =>
      intro i hd hi t ho h2 hv
      refine b_wp_takesBales_12 rfl ?_
      unfold T_wp_takesBales_12
      rw [wr_id (x := (i : Int)) (by omega) (by omega)]
      refine ⟨fun z => by omega, fun _ => ⟨by omega, fun s2 x2 => ⟨by omega, fun s3 x3 => ?_⟩⟩⟩
      obtain ⟨b1, b2, b3⟩ := updM_f x2
      obtain ⟨d1, d2, d3⟩ := updM_f x3
      have := ih (i + 1) (by omega) (by omega) s3 (fun o q => by rw [d1 o q, b1 o q, ho o q]) (by rw [d2 2 (by omega), b2 2 (by omega)]; exact h2) (fun x x0 x1 => by
        rw [d2 0 (by omega), b3, d3, b2 1 (by omega)]
        by_cases z : x = (i : Int)
        · rw [uA_e _ z, uA_e _ z]
          exact ⟨rfl, rfl⟩
        · rw [uA_n _ z, uA_n _ z]
          exact hv x x0 (by omega))
      rw [show ((i + 1 : Nat) : Int) = (i : Int) + 1 by omega] at this
      exact this
  exact init 3 0 (by omega) (by omega) s1 (fun o q => a1 o q) (by rw [a3, uA_s]) (fun x x0 x1 => by omega)
theorem lst_1 (w : Int → Int) (j : Nat) : lst w (j + 1) = lst w j + w ((j : Int) + 1) * ((j : Int) + 1) := rfl
theorem lst_bd {w : Int → Int} (hw : ∀ i, 1 ≤ i → i ≤ 8 → 0 ≤ w i ∧ w i ≤ 9) : ∀ j : Nat, j ≤ 8 → 0 ≤ lst w j ∧ lst w j ≤ 72 * j
  | 0, _ => by
    show 0 ≤ (0 : Int) ∧ (0 : Int) ≤ _
    omega
  | j + 1, h => by
    have ih := lst_bd hw j (by omega)
    have e := hw ((j : Int) + 1) (by omega) (by omega)
    have h1 : w ((j : Int) + 1) * ((j : Int) + 1) ≤ 9 * ((j : Int) + 1) := Int.mul_le_mul_of_nonneg_right e.2 (by omega)
    have h2 : 0 ≤ w ((j : Int) + 1) * ((j : Int) + 1) := Int.mul_nonneg e.1 (by omega)
    rw [lst_1]
    omega
theorem p_wp_takesWeights {s : Mem} {Q : Int → Mem → Prop} (hw : ∀ i, 1 ≤ i → i ≤ 8 → 0 ≤ s 4 2 i ∧ s 4 2 i ≤ 9)
    (h : ∀ t, FrJ 26 (fun j => j = 3 ∨ j = 4 ∨ j = 5) s t → (∀ i, 1 ≤ i → i ≤ 8 → t 26 3 i = s 4 2 i) → (∀ j : Nat, j ≤ 8 → t 26 4 (j : Int) = lst (s 4 2) j) → (∀ j : Nat, j ≤ 4 → t 26 5 (j : Int) = (smL (fun k => s 4 2 (k + 1)) 8) ^ j) → Q (b2 (0 < smL (fun k => s 4 2 (k + 1)) 8)) t) : W_wp_takesWeights 4 s Q := by
  refine w_wp_takesWeights (b_wp_takesWeights_0 rfl ?_)
  intro s1 x1
  obtain ⟨a1, a2, a3⟩ := updM_f x1
  have htw : ∀ n : Nat, n ≤ 8 → 0 ≤ smL (fun k => s 4 2 (k + 1)) n ∧ smL (fun k => s 4 2 (k + 1)) n ≤ 9 * n := fun n hn => smL_bd (by omega) n (fun k hk => hw _ (by omega) (by omega))
  have pows : ∀ d j : Nat, 5 - j = d → 1 ≤ j → j ≤ 5 → ∀ t, FrJ 26 (fun j => j = 3 ∨ j = 4 ∨ j = 5) s t → (∀ i, 1 ≤ i → i ≤ 8 → t 26 3 i = s 4 2 i) → (∀ j : Nat, j ≤ 8 → t 26 4 (j : Int) = lst (s 4 2) j) → (∀ i : Nat, i < j → t 26 5 (i : Int) = (smL (fun k => s 4 2 (k + 1)) 8) ^ i) → K_wp_takesWeights_77 Q (smL (fun k => s 4 2 (k + 1)) 8) (j : Int) t := by
    intro d
    have h8 := htw 8 (by omega)
    generalize smL (fun k => s 4 2 (k + 1)) 8 = T at h h8 ⊢
    induction d with
    | zero =>
      intro j hd h1 hj t hF h3 h4 h5
      refine b_wp_takesWeights_77 ?_
      unfold T_wp_takesWeights_77 T_wp_takesWeights_105 T_wp_takesWeights_113 T_wp_takesWeights_114
      rw [wr_id (x := (j : Int)) (by omega) (by omega), wr_id (x := T) (by omega) (by omega)]
      have h := h t hF h3 h4 (fun i hi => h5 i (by omega))
      refine ⟨fun _ => ⟨fun c => ?_, fun c => ?_⟩, fun z => by omega⟩
      · rw [b2_f (by omega)] at h
        exact ⟨Or.inl rfl, h⟩
      · rw [b2_t (by omega)] at h
        exact ⟨Or.inr rfl, h⟩
    | succ d ih =>
      intro j hd h1 hj t hF h3 h4 h5
      refine b_wp_takesWeights_77 ?_
      unfold T_wp_takesWeights_77
      rw [wr_id (x := (j : Int)) (by omega) (by omega), wr_id (x := T) (by omega) (by omega), wr_id (x := (j : Int) - 1) (by omega) (by omega)]
      refine ⟨fun z => by omega, fun _ => ⟨by omega, by omega, fun s2 x2 => ?_⟩⟩
      obtain ⟨b1, b2, b3⟩ := updM_f x2
      rw [show (j : Int) - 1 = ((j - 1 : Nat) : Int) by omega, h5 (j - 1) (by omega), ← Int.pow_succ, show (j - 1).succ = j by omega] at b3
      have := ih (j + 1) (by omega) (by omega) (by omega) s2 (hF.tr ⟨b1, fun j q => b2 j (by omega)⟩) (fun i i0 i1 => by rw [b2 3 (by omega)]; exact h3 i i0 i1) (fun i hi => by rw [b2 4 (by omega)]; exact h4 i hi) (fun i hi => by
        rw [b3]
        by_cases z : i = j
        · subst z
          rw [uA_s]
        · rw [uA_n _ (by omega)]
          exact h5 i (by omega))
      rw [show ((j + 1 : Nat) : Int) = (j : Int) + 1 by omega] at this
      exact this
  have walk : ∀ d j : Nat, 8 - j = d → j ≤ 8 → ∀ t, FrJ 26 (fun j => j = 3 ∨ j = 4 ∨ j = 5) s t → (∀ i : Int, 1 ≤ i → i ≤ j → t 26 3 i = s 4 2 i) → (∀ i : Nat, i ≤ j → t 26 4 (i : Int) = lst (s 4 2) i) → K_wp_takesWeights_11 Q 4 (smL (fun k => s 4 2 (k + 1)) j) ((j : Int) + 1) t := by
    intro d
    induction d with
    | zero =>
      intro j hd hj t hF h3 h4
      have e : j = 8 := by omega
      subst e
      refine b_wp_takesWeights_11 rfl ?_
      unfold T_wp_takesWeights_11 T_wp_takesWeights_68
      refine ⟨fun _ => ?_, fun z => absurd (by decide) z⟩
      intro s2 x2
      obtain ⟨b1, b2, b3⟩ := updM_f x2
      exact pows 4 1 (by omega) (by omega) (by omega) s2 (hF.tr ⟨b1, fun j q => b2 j (by omega)⟩) (fun i i0 i1 => by rw [b2 3 (by omega)]; exact h3 i i0 (by omega)) (fun i hi => by rw [b2 4 (by omega)]; exact h4 i hi) (fun i hi => by
        have : i = 0 := by omega
        subst this
        rw [b3, Int.pow_zero]
        exact uA_s _ _ _)
    | succ d ih =>
      intro j hd hj t hF h3 h4
      refine b_wp_takesWeights_11 rfl ?_
      have hwj := hw ((j : Int) + 1) (by omega) (by omega)
      have ih := ih (j + 1) (by omega) (by omega)
      have es : smL (fun k => s 4 2 (k + 1)) (j + 1) = smL (fun k => s 4 2 (k + 1)) j + s 4 2 ((j : Int) + 1) := rfl
      rw [es, show (((j + 1 : Nat) : Int) + 1) = (j : Int) + 1 + 1 by omega] at ih
      unfold T_wp_takesWeights_11
      rw [wr_id (x := (j : Int) + 1) (by omega) (by omega)]
      refine ⟨fun z => by omega, fun _ => ⟨by omega, by omega, fun s2 x2 => ?_⟩⟩
      rw [hF.1 4 (by omega)] at x2
      obtain ⟨b1, b2, b3⟩ := updM_f x2
      rw [show (j : Int) + 1 - 1 = (j : Int) by omega, wr_id (x := (j : Int)) (by omega) (by omega)]
      refine ⟨by omega, by omega, by omega, fun s3 x3 => ?_⟩
      have e3 : s2 26 3 ((j : Int) + 1) = s 4 2 ((j : Int) + 1) := by rw [b3, uA_s]
      have hm : s 4 2 ((j : Int) + 1) * ((j : Int) + 1) ≤ 9 * ((j : Int) + 1) := Int.mul_le_mul_of_nonneg_right hwj.2 (by omega)
      have hm0 : 0 ≤ s 4 2 ((j : Int) + 1) * ((j : Int) + 1) := Int.mul_nonneg hwj.1 (by omega)
      rw [e3, b2 4 (by omega), h4 j (Nat.le_refl _), wr_id (x := s 4 2 ((j : Int) + 1) * ((j : Int) + 1)) (by omega) (by omega), ← lst_1] at x3
      obtain ⟨d1, d2, d3⟩ := updM_f x3
      rw [b2 4 (by omega)] at d3
      refine ⟨by omega, ?_⟩
      rw [d2 3 (by omega), e3]
      refine ih s3 (hF.tr ⟨fun o q => by rw [d1 o q, b1 o q], fun j q => by rw [d2 j (by omega), b2 j (by omega)]⟩) (fun i i0 i1 => ?_) (fun i hi => ?_)
      · rw [d2 3 (by omega), b3]
        by_cases z : i = (j : Int) + 1
        · rw [uA_e _ z, z]
        · rw [uA_n _ z]
          exact h3 i i0 (by omega)
      · rw [d3]
        by_cases z : i = j + 1
        · subst z
          rw [uA_e _ (by omega)]
        · rw [uA_n _ (by omega)]
          exact h4 i (by omega)
  have := walk 8 0 (by omega) (by omega) s1 ⟨a1, fun j q => a2 j (by omega)⟩ (fun i i0 i1 => by omega) (fun i hi => by
    have : i = 0 := by omega
    subst this
    rw [a3]
    exact uA_s _ _ _)
  exact this
