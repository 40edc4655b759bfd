/-! ===== the reference's IMAGES ===== -/
theorem p_carO {j n : Nat} {p : Int} {s : Mem} {Q : Mem → Prop} (hk : arrK 3 n 34 j) (hj : ¬ (j = 67 ∨ j = 69 ∨ j = 70)) (e0 : s 34 70 0 = 0) (ep : s 34 69 0 = p) (hp : 0 ≤ p ∧ p + n ≤ 1000)
    (h : ∀ t, FrJ 34 (fun j => j = 67 ∨ j = 69) s t → t 34 69 0 = p + n → (∀ k : Int, 0 ≤ k → k < n → t 34 67 (p + k) = s 34 j k) → (∀ x, ¬ (p ≤ x ∧ x < p + n) → t 34 67 x = s 34 67 x) → Q t) : W_md_carry 34 j n s Q := by
  refine w_md_carry (b_md_carry_0 hk ?_)
  have loop : ∀ i : Int, ∀ t, 0 ≤ i → i ≤ n → FrJ 34 (fun j => j = 67 ∨ j = 69) s t → t 34 69 0 = p + i → (∀ k, 0 ≤ k → k < i → t 34 67 (p + k) = s 34 j k) → (∀ x, ¬ (p ≤ x ∧ x < p + i) → t 34 67 x = s 34 67 x) → K_md_carry_2 Q 34 j n i t := by
    refine fun i => ind_up (P := fun i => ∀ t, 0 ≤ i → i ≤ n → FrJ 34 (fun j => j = 67 ∨ j = 69) s t → t 34 69 0 = p + i → (∀ k, 0 ≤ k → k < i → t 34 67 (p + k) = s 34 j k) → (∀ x, ¬ (p ≤ x ∧ x < p + i) → t 34 67 x = s 34 67 x) → K_md_carry_2 Q 34 j n i t) n (fun i ih t h0 h1 hF e9 hv ho => ?_) i
    refine b_md_carry_2 hk ?_
    unfold T_md_carry_2 T_md_carry_30 T_md_carry_42
    rw [hF.2 70 (by omega), e0, e9, wr_id (x := (n : Int)) (by omega) (by omega), wr_id (x := i) (by omega) (by omega), wr_0, wr_id (x := p + i) (by omega) (by omega)]
    refine ⟨fun c => ?_, fun c => ⟨fun _ => ⟨by omega, by omega, fun s1 x1 s2 x2 => ?_⟩, fun z => absurd rfl z⟩⟩
    · have : i = n := by omega
      subst this
      exact h t hF e9 hv ho
    · obtain ⟨a1, a2, a3⟩ := updM_f x1
      obtain ⟨b1, b2, b3⟩ := updM_f x2
      rw [a2 69 (by omega), e9] at b3
      refine ih (by omega) s2 (by omega) (by omega) (hF.tr ⟨fun o q => by rw [b1 o q, a1 o q], fun j q => by rw [b2 j (by omega), a2 j (by omega)]⟩) (by rw [b3, uA_s]; omega) (fun k k0 k1 => ?_) (fun x hx => ?_)
      · rw [b2 67 (by omega), a3]
        by_cases q : k = i
        · rw [uA_e _ (by omega), q, hF.2 j (by omega)]
        · rw [uA_n _ (by omega)]
          exact hv k k0 (by omega)
      · rw [b2 67 (by omega), a3, uA_n _ (by omega)]
        exact ho x (by omega)
  exact loop 0 s (by omega) (by omega) FrJ.rf (by omega) (fun k k0 k1 => by omega) (fun x _ => rfl)
theorem p_carI {j n : Nat} {p : Int} {s : Mem} {Q : Mem → Prop} (hk : arrK 3 n 34 j) (hj : ¬ (j = 67 ∨ j = 69 ∨ j = 70)) (e0 : s 34 70 0 = 1) (ep : s 34 69 0 = p) (hp : 0 ≤ p ∧ p + n ≤ 1000)
    (h : ∀ t, FrJ 34 (fun j' => j' = j ∨ j' = 69) s t → t 34 69 0 = p + n → (∀ k : Int, 0 ≤ k → k < n → t 34 j k = s 34 67 (p + k)) → Q t) : W_md_carry 34 j n s Q := by
  refine w_md_carry (b_md_carry_0 hk ?_)
  have loop : ∀ i : Int, ∀ t, 0 ≤ i → i ≤ n → FrJ 34 (fun j' => j' = j ∨ j' = 69) s t → t 34 69 0 = p + i → (∀ k, 0 ≤ k → k < i → t 34 j k = s 34 67 (p + k)) → K_md_carry_2 Q 34 j n i t := by
    refine fun i => ind_up (P := fun i => ∀ t, 0 ≤ i → i ≤ n → FrJ 34 (fun j' => j' = j ∨ j' = 69) s t → t 34 69 0 = p + i → (∀ k, 0 ≤ k → k < i → t 34 j k = s 34 67 (p + k)) → K_md_carry_2 Q 34 j n i t) n (fun i ih t h0 h1 hF e9 hv => ?_) i
    refine b_md_carry_2 hk ?_
    unfold T_md_carry_2 T_md_carry_42
    rw [hF.2 70 (by omega), e0, e9, wr_id (x := (n : Int)) (by omega) (by omega), wr_id (x := i) (by omega) (by omega), wr_1, wr_id (x := p + i) (by omega) (by omega)]
    refine ⟨fun c => ?_, fun c => ⟨fun z => absurd z (by decide), fun _ => ⟨by omega, by omega, fun s1 x1 s2 x2 => ?_⟩⟩⟩
    · have : i = n := by omega
      subst this
      exact h t hF e9 hv
    · obtain ⟨a1, a2, a3⟩ := updM_f x1
      obtain ⟨b1, b2, b3⟩ := updM_f x2
      rw [a2 69 (by omega), e9] at b3
      refine ih (by omega) s2 (by omega) (by omega) (hF.tr ⟨fun o q => by rw [b1 o q, a1 o q], fun j q => by rw [b2 j (by omega), a2 j (by omega)]⟩) (by rw [b3, uA_s]; omega) (fun k k0 k1 => ?_)
      rw [b2 j (by omega), a3]
      by_cases q : k = i
      · rw [uA_e _ q, q, hF.2 67 (by omega)]
      · rw [uA_n _ q]
        exact hv k k0 (by omega)
  exact loop 0 s (by omega) (by omega) FrJ.rf (by omega) (fun k k0 k1 => by omega)
/-- where a row begins in an image -/
def mof (a : Nat) : Int := if a < 20 then (moff a : Int) else 230
theorem mof_s : ∀ a, a < 20 → mof (a + 1) = mof a + mdN a := by decide
theorem mof_le : ∀ a, a < 21 → ∀ b, b < a → mof b + mdN b ≤ mof a := by decide
theorem mof_bd : ∀ a, a < 21 → 0 ≤ mof a ∧ mof a ≤ 230 := by decide
theorem mf_sc : ∀ a, a < 20 → ¬ (mfld a = 67 ∨ mfld a = 69 ∨ mfld a = 70) := by decide
theorem mf_ar : ∀ a, a < 20 → ftab (cls 34) (mfld a) = (3, mdN a) := by decide
/-- a rows are in the image at p; a rows are taken from it -/
def CO (s t : Mem) (p : Int) (a : Nat) : Prop := FrJ 34 (fun j => j = 67 ∨ j = 69) s t ∧ t 34 69 0 = p + mof a ∧ (∀ b, b < a → ∀ k : Int, 0 ≤ k → k < mdN b → t 34 67 (p + mof b + k) = s 34 (mfld b) k) ∧ ∀ x, ¬ (p ≤ x ∧ x < p + mof a) → t 34 67 x = s 34 67 x
def CI (s t : Mem) (p : Int) (a : Nat) : Prop := FrJ 34 (fun j => j = 69 ∨ ∃ b, b < a ∧ j = mfld b) s t ∧ t 34 69 0 = p + mof a ∧ ∀ b, b < a → ∀ k : Int, 0 ≤ k → k < mdN b → t 34 (mfld b) k = s 34 67 (p + mof b + k)
theorem co_step {s t : Mem} {p : Int} (a : Nat) {Q : Mem → Prop} (ha : a < 20) (hp : 0 ≤ p ∧ p ≤ 750) (e0 : s 34 70 0 = 0) (h : CO s t p a) (hQ : ∀ u, CO s u p (a + 1) → Q u) : W_md_carry 34 (mfld a) (mdN a) t Q := by
  obtain ⟨h1, h2, h3, h4⟩ := h
  have b1 := mof_bd a (by omega)
  have b2 := mof_bd (a + 1) (by omega)
  have b3 := mof_s a ha
  refine p_carO (mf_ar a ha) (mf_sc a ha) (by rw [h1.2 70 (by omega)]; exact e0) h2 (by omega) (fun u u1 u2 u3 u4 => hQ u ⟨h1.tr u1, by omega, fun b hb k k0 k1 => ?_, fun x hx => ?_⟩)
  · by_cases q : b = a
    · subst q
      rw [u3 k k0 k1, h1.2 _ (fun z => mf_sc b ha (by omega))]
    · have := mof_le a (by omega) b (by omega)
      have := (mof_bd b (by omega)).1
      rw [u4 _ (by omega)]
      exact h3 b (by omega) k k0 k1
  · rw [u4 x (by omega)]
    exact h4 x (by omega)
theorem ci_step {s t : Mem} {p : Int} (a : Nat) {Q : Mem → Prop} (ha : a < 20) (hp : 0 ≤ p ∧ p ≤ 750) (e0 : s 34 70 0 = 1) (h : CI s t p a) (hQ : ∀ u, CI s u p (a + 1) → Q u) : W_md_carry 34 (mfld a) (mdN a) t Q := by
  obtain ⟨h1, h2, h3⟩ := h
  have b1 := mof_bd a (by omega)
  have b2 := mof_bd (a + 1) (by omega)
  have b3 := mof_s a ha
  have sc : ∀ j, (j = 67 ∨ j = 70) → t 34 j = s 34 j := fun j hj => h1.2 j (by
    rintro (q | ⟨b, hb, q⟩)
    · omega
    · exact mf_sc b (by omega) (by omega))
  refine p_carI (mf_ar a ha) (mf_sc a ha) (by rw [sc 70 (by omega)]; exact e0) h2 (by omega) (fun u u1 u2 u3 => hQ u ⟨(h1.mono (fun j hj => hj.elim Or.inl (fun ⟨b, hb, q⟩ => Or.inr ⟨b, by omega, q⟩))).tr (u1.mono (fun j hj => hj.elim (fun q => Or.inr ⟨a, by omega, q⟩) Or.inl)), by omega, fun b hb k k0 k1 => ?_⟩)
  by_cases q : b = a
  · subst q
    rw [u3 k k0 k1, sc 67 (by omega)]
  · rw [u1.2 (mfld b) (fun z => z.elim (fun z => q (mfld_inj z)) (fun z => mf_sc b (by omega) (by omega)))]
    exact h3 b (by omega) k k0 k1
theorem p_md_carriesOut {k : Int} {s : Mem} {Q : Mem → Prop} (hk : 0 ≤ k ∧ k < 4) (h : ∀ t, FrJ 34 (fun j => j = 67 ∨ j = 69 ∨ j = 70) s t → EqN mdI (MM s) (MI t k) → (∀ k', 0 ≤ k' → k' < 4 → ¬ k' = k → EqN mdI (MI s k') (MI t k')) → Q t) : W_md_carriesAll k 0 s Q := by
  refine w_md_carriesAll (b_md_carriesAll_0 ?_)
  intro s1 x1
  refine ⟨Or.inl rfl, fun s2 x2 => ?_⟩
  obtain ⟨a1, a2, a3⟩ := updM_f x1
  obtain ⟨b1, b2, b3⟩ := updM_f x2
  have fr : FrJ 34 (fun j => j = 69 ∨ j = 70) s s2 := ⟨fun o q => by rw [b1 o q, a1 o q], fun j q => by rw [b2 j (by omega), a2 j (by omega)]⟩
  have e0 : s2 34 70 0 = 0 := by rw [b3, uA_s]
  have c0 : CO s2 s2 (250 * k) 0 := ⟨FrJ.rf, by rw [b2 69 (by omega), a3, uA_s]; show 250 * k = 250 * k + 0; omega, fun b hb => by omega, fun x _ => rfl⟩
  have hp : 0 ≤ 250 * k ∧ 250 * k ≤ 750 := by omega
  refine co_step 0 (by omega) hp e0 c0 (fun t1 d1 => co_step 1 (by omega) hp e0 d1 (fun t2 d2 => co_step 2 (by omega) hp e0 d2 (fun t3 d3 => co_step 3 (by omega) hp e0 d3 (fun t4 d4 => co_step 4 (by omega) hp e0 d4 (fun t5 d5 => co_step 5 (by omega) hp e0 d5 (fun t6 d6 => co_step 6 (by omega) hp e0 d6 (fun t7 d7 => co_step 7 (by omega) hp e0 d7 (fun t8 d8 => co_step 8 (by omega) hp e0 d8 (fun t9 d9 => co_step 9 (by omega) hp e0 d9 (fun t10 d10 => co_step 10 (by omega) hp e0 d10 (fun t11 d11 => co_step 11 (by omega) hp e0 d11 (fun t12 d12 => co_step 12 (by omega) hp e0 d12 (fun t13 d13 => co_step 13 (by omega) hp e0 d13 (fun t14 d14 => co_step 14 (by omega) hp e0 d14 (fun t15 d15 => co_step 15 (by omega) hp e0 d15 (fun t16 d16 => co_step 16 (by omega) hp e0 d16 (fun t17 d17 => co_step 17 (by omega) hp e0 d17 (fun t18 d18 => co_step 18 (by omega) hp e0 d18 (fun t19 d19 => co_step 19 (by omega) hp e0 d19 (fun t d => ?_))))))))))))))))))))
  obtain ⟨f1, f2, f3, f4⟩ := d
  have mlt : ∀ (a : Nat) (i : Int), 0 ≤ i → i < mdI a → a < 20 := fun a i i0 i1 => by
    unfold mdI mdN at i1
    (repeat' split at i1) <;> omega
  refine h t ((fr.mono (fun j q => by omega)).tr (f1.mono (fun j q => by omega))) (fun a i i0 i1 => ?_) (fun k' k0 k1 kk a i i0 i1 => ?_)
  · have ha := mlt a i i0 i1
    have em : mof a = (moff a : Int) := if_pos ha
    show t 34 67 (250 * k + (moff a : Int) + i) = s 34 (mfld a) i
    rw [← em, f3 a ha i i0 i1, fr.2 _ (fun z => mf_sc a ha (by omega))]
  · have ha := mlt a i i0 i1
    have em : mof a = (moff a : Int) := if_pos ha
    have ml := mof_le 20 (by omega) a ha
    have mb := (mof_bd a (by omega)).1
    have i1 : i < (mdN a : Int) := i1
    have m20 : mof (19 + 1) = 230 := rfl
    have m21 : mof 20 = 230 := rfl
    show t 34 67 (250 * k' + (moff a : Int) + i) = s 34 67 (250 * k' + (moff a : Int) + i)
    rw [f4 _ (by omega), fr.2 67 (by omega)]
theorem p_md_carriesIn {k : Int} {s : Mem} {Q : Mem → Prop} (hk : 0 ≤ k ∧ k < 4) (h : ∀ t, (∀ o, ¬ o = 34 → t o = s o) → (∀ j, kpJ j → ¬ ((2 ≤ j ∧ j ≤ 11) ∨ (22 ≤ j ∧ j ≤ 31)) → t 34 j = s 34 j) → EqN mdI (MI s k) (MM t) → Q t) : W_md_carriesAll k 1 s Q := by
  refine w_md_carriesAll (b_md_carriesAll_0 ?_)
  intro s1 x1
  refine ⟨Or.inr rfl, fun s2 x2 => ?_⟩
  obtain ⟨a1, a2, a3⟩ := updM_f x1
  obtain ⟨b1, b2, b3⟩ := updM_f x2
  have fr : FrJ 34 (fun j => j = 69 ∨ j = 70) s s2 := ⟨fun o q => by rw [b1 o q, a1 o q], fun j q => by rw [b2 j (by omega), a2 j (by omega)]⟩
  have e0 : s2 34 70 0 = 1 := by rw [b3, uA_s]
  have c0 : CI s2 s2 (250 * k) 0 := ⟨FrJ.rf, by rw [b2 69 (by omega), a3, uA_s]; show 250 * k = 250 * k + 0; omega, fun b hb => by omega⟩
  have hp : 0 ≤ 250 * k ∧ 250 * k ≤ 750 := by omega
  refine ci_step 0 (by omega) hp e0 c0 (fun t1 d1 => ci_step 1 (by omega) hp e0 d1 (fun t2 d2 => ci_step 2 (by omega) hp e0 d2 (fun t3 d3 => ci_step 3 (by omega) hp e0 d3 (fun t4 d4 => ci_step 4 (by omega) hp e0 d4 (fun t5 d5 => ci_step 5 (by omega) hp e0 d5 (fun t6 d6 => ci_step 6 (by omega) hp e0 d6 (fun t7 d7 => ci_step 7 (by omega) hp e0 d7 (fun t8 d8 => ci_step 8 (by omega) hp e0 d8 (fun t9 d9 => ci_step 9 (by omega) hp e0 d9 (fun t10 d10 => ci_step 10 (by omega) hp e0 d10 (fun t11 d11 => ci_step 11 (by omega) hp e0 d11 (fun t12 d12 => ci_step 12 (by omega) hp e0 d12 (fun t13 d13 => ci_step 13 (by omega) hp e0 d13 (fun t14 d14 => ci_step 14 (by omega) hp e0 d14 (fun t15 d15 => ci_step 15 (by omega) hp e0 d15 (fun t16 d16 => ci_step 16 (by omega) hp e0 d16 (fun t17 d17 => ci_step 17 (by omega) hp e0 d17 (fun t18 d18 => ci_step 18 (by omega) hp e0 d18 (fun t19 d19 => ci_step 19 (by omega) hp e0 d19 (fun t d => ?_))))))))))))))))))))
  obtain ⟨f1, f2, f3⟩ := d
  have mlt : ∀ (a : Nat) (i : Int), 0 ≤ i → i < mdI a → a < 20 := fun a i i0 i1 => by
    unfold mdI mdN at i1
    (repeat' split at i1) <;> omega
  refine h t (fun o ho => by rw [f1.1 o ho, fr.1 o ho]) (fun j hj q => ?_) (fun a i i0 i1 => ?_)
  · rw [f1.2 j (fun z => ?_), fr.2 j (by unfold kpJ at hj; omega)]
    rcases z with z | ⟨b, hb, z⟩
    · unfold kpJ at hj
      omega
    · unfold mfld at z
      split at z <;> omega
  · have ha := mlt a i i0 i1
    have em : mof a = (moff a : Int) := if_pos ha
    show t 34 (mfld a) i = s 34 67 (250 * k + (moff a : Int) + i)
    rw [f3 a ha i i0 i1, em, fr.2 67 (by omega)]
