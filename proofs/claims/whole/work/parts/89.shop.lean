/-! ===== SHOP ===== -/
theorem Img_of {s t : Mem} (h : Img s) (h4 : t 0 4 = s 0 4) (ho : ∀ o, 8 ≤ o ∧ o ≤ 19 → t o = s o) (h67 : t 34 67 = s 34 67) (h68 : t 34 68 = s 34 68) : Img t := by
  intro k k0 k1
  obtain ⟨b1, b2⟩ := h k k0 k1
  have e : MI t k = MI s k := by
    funext a i
    show t 34 67 _ = s 34 67 _
    rw [h67]
  rw [h4, h68, ho (8 + 3 * k.toNat + 1) (by omega), ho (8 + 3 * k.toNat + 2) (by omega), ho (8 + 3 * k.toNat) (by omega), e]
  exact ⟨b1, b2⟩
theorem Rul_of {s t : Mem} (h : Rul s) (h6 : t 0 6 = s 0 6) (h36 : t 34 36 = s 34 36) (hr : ∀ o j, 28 ≤ o → o ≤ 33 → j < 7 → t o j = s o j) (hm : ∀ j, 44 ≤ j → j ≤ 50 → t 34 j = s 34 j) : Rul t := by
  obtain ⟨b1, b2, b3⟩ := h
  refine ⟨by rw [h6]; exact b1, by rw [h6, h36]; exact b2, fun r r0 r1 => ?_⟩
  rw [h6] at r1
  exact RR_R (fun j hj2 => hr _ j (by omega) (by omega) hj2) hm (b3 r r0 r1)
theorem Tap_0 {t : Mem} (h1 : t 1 1 0 = 0) (h2 : t 34 32 0 = 0) : Tap t := ⟨by omega, by omega, fun i i0 i1 => by omega⟩
theorem Inv_txt {s t : Mem} (h : Inv s) (ho : ∀ o, ¬ (o = 1 ∨ (20 ≤ o ∧ o ≤ 27) ∨ o = 34) → t o = s o) (hm : ∀ j, kpJ j → ¬ j = 32 → t 34 j = s 34 j) (hT : Tap t) : Inv t := by
  obtain ⟨a1, a2, a3, a4, a5, a6⟩ := h
  refine ⟨?_, hT, ?_, Img_of a4 (by rw [ho 0 (by omega)]) (fun o q => ho o (by omega)) (hm 67 (by unfold kpJ; omega) (by omega)) (hm 68 (by unfold kpJ; omega) (by omega)), Rul_of a5 (by rw [ho 0 (by omega)]) (hm 36 (by unfold kpJ; omega) (by omega)) (fun o j q1 q2 _ => by rw [ho o (by omega)]) (fun j j0 j1 => hm j (by unfold kpJ; omega) (by omega)), by rw [hm 41 (by unfold kpJ; omega) (by omega)]; exact a6⟩
  · unfold RSm at a1 ⊢
    rw [ho 3 (by omega), ho 4 (by omega), ho 2 (by omega)]
    exact RS_M (fun a ha => hm _ (kpJ_mfld ha) (by unfold mfld; split <;> omega)) a1
  · unfold Sts at a3 ⊢
    rw [ho 0 (by omega), hm 1 (by unfold kpJ; omega) (by omega)]
    exact a3
theorem p_td_clear {o : Nat} {s : Mem} {Q : Mem → Prop} (ho : cls o = 9) (h : ∀ t, (∀ o', ¬ o' = o → t o' = s o') → t o 1 0 = 0 → t o 5 0 = 0 → t o 7 0 = 0 → (∀ k, 0 ≤ k → k < 9 → t o 2 k = 0) → (∀ c, 0 ≤ c → c < 6 → t o 6 c = 0) → Q t) : W_td_clear o s Q := by
  refine w_td_clear (b_td_clear_0 ho ?_)
  intro s1 x1 s2 x2
  obtain ⟨a1, a2, a3⟩ := updM_f x1
  obtain ⟨b1, b2, b3⟩ := updM_f x2
  have loop : ∀ i : Int, ∀ t, 0 ≤ i → i ≤ 9 → FrJ o (fun j => j = 2) s2 t → (∀ c, 0 ≤ c → c < i → t o 2 c = 0) → K_td_clear_12 Q o i t := by
    refine fun i => ind_up (P := fun i => ∀ t, 0 ≤ i → i ≤ 9 → FrJ o (fun j => j = 2) s2 t → (∀ c, 0 ≤ c → c < i → t o 2 c = 0) → K_td_clear_12 Q o i t) 9 (fun i ih t h0 h1 hF hv => ?_) i
    refine b_td_clear_12 ho ?_
    unfold T_td_clear_12 T_td_clear_31
    rw [wr_id (x := i) (by omega) (by omega)]
    refine ⟨fun c => p_td_clearEntries ho (fun u Fu u7 u6 => h u (fun o' q => by rw [Fu.1 o' q, hF.1 o' q, b1 o' q, a1 o' q]) ?_ ?_ u7 (fun k k0 k1 => ?_) u6), fun c => ⟨by omega, fun s3 x3 => ?_⟩⟩
    · rw [Fu.2 1 (by omega), hF.2 1 (by omega), b2 1 (by omega), a3, uA_s]
    · rw [Fu.2 5 (by omega), hF.2 5 (by omega), b3, uA_s]
    · rw [Fu.2 2 (by omega)]
      exact hv k k0 (by omega)
    · obtain ⟨y1, y2, y3⟩ := updM_f x3
      refine ih (by omega) s3 (by omega) (by omega) (hF.tr ⟨y1, fun j q => y2 j q⟩) (fun k k0 k1 => ?_)
      rw [y3]
      by_cases q : k = i
      · rw [uA_e _ q]
      · rw [uA_n _ q]
        exact hv k k0 (by omega)
  exact loop 0 s2 (by omega) (by omega) FrJ.rf (fun k k0 k1 => by omega)
theorem p_sd_clearCounts2 {s : Mem} {Q : Mem → Prop} (h : ∀ t, (∀ o, ¬ o = 2 → t o = s o) → (∀ j, ¬ (7 ≤ j ∧ j ≤ 10) → t 2 j = s 2 j) → t 2 7 0 = 0 → t 2 8 0 = 0 → t 2 9 0 = 0 → t 2 10 0 = 0 → Q t) : W_sd_clearCounts 2 s Q := by
  refine w_sd_clearCounts (b_sd_clearCounts_0 rfl ?_)
  intro s1 x1 s2 x2 s3 x3 s4 x4
  obtain ⟨a1, a2, a3⟩ := updM_f x1
  obtain ⟨b1, b2, b3⟩ := updM_f x2
  obtain ⟨c1, c2, c3⟩ := updM_f x3
  obtain ⟨d1, d2, d3⟩ := updM_f x4
  refine h s4 (fun o ho => by rw [d1 o ho, c1 o ho, b1 o ho, a1 o ho]) (fun j hj => by rw [d2 j (by omega), c2 j (by omega), b2 j (by omega), a2 j (by omega)]) ?_ ?_ ?_ ?_
  · rw [d2 7 (by omega), c2 7 (by omega), b2 7 (by omega), a3, uA_s]
  · rw [d2 8 (by omega), c2 8 (by omega), b3, uA_s]
  · rw [d2 9 (by omega), c3, uA_s]
  · rw [d3, uA_s]
/-- a Stand opens with the draft's Shop -/
theorem p_sd_open {s : Mem} {Q : Mem → Prop} (h : ∀ t, (∀ o, ¬ (o = 2 ∨ o = 3 ∨ o = 4) → t o = s o) → EqN shN (s 21) (t 3) → (t 4 1 0 = 0 ∧ t 4 5 0 = 0 ∧ t 4 7 0 = 0 ∧ (∀ k, 0 ≤ k → k < 9 → t 4 2 k = 0) ∧ (∀ c, 0 ≤ c → c < 6 → t 4 6 c = 0)) → (t 2 6 0 = 0 ∧ t 2 7 0 = 0 ∧ t 2 8 0 = 0 ∧ t 2 9 0 = 0 ∧ t 2 10 0 = 0 ∧ t 2 11 0 = 0 ∧ t 2 12 = s 2 12) → Q t) : W_sd_open 2 21 s Q := by
  refine w_sd_open (b_sd_open_0 rfl rfl ?_)
  unfold T_sd_open_0
  refine p_sh_copyFrom rfl rfl (by decide) (fun t1 f1 e1 => p_td_clear rfl (fun t2 f2 g1 g2 g3 g4 g5 s3 x3 => p_sd_clearCounts2 (fun t4 f4 f5 c7 c8 c9 c10 s5 x5 => ?_)))
  obtain ⟨a1, a2, a3⟩ := updM_f x3
  obtain ⟨b1, b2, b3⟩ := updM_f x5
  have e4 : s5 4 = t2 4 := by rw [b1 4 (by omega), f4 4 (by omega), a1 4 (by omega)]
  have e2 : ∀ j, ¬ j = 11 → s5 2 j = t4 2 j := b2
  refine h s5 (fun o q => by rw [b1 o (by omega), f4 o (by omega), a1 o (by omega), f2 o (by omega), f1 o (by omega)]) ?_ ?_ ⟨?_, by rw [e2 7 (by omega)]; exact c7, by rw [e2 8 (by omega)]; exact c8, by rw [e2 9 (by omega)]; exact c9, by rw [e2 10 (by omega)]; exact c10, by rw [b3, uA_s], ?_⟩
  · rw [b1 3 (by omega), f4 3 (by omega), a1 3 (by omega), f2 3 (by omega)]
    exact e1
  · rw [e4]
    exact ⟨g1, g2, g3, g4, g5⟩
  · rw [e2 6 (by omega), f5 6 (by omega), a3, uA_s]
  · rw [e2 12 (by omega), f5 12 (by omega), a2 12 (by omega), f2 2 (by omega), f1 2 (by omega)]
/-- the reference opens -/
theorem p_md_opens {s : Mem} {Q : Int → Mem → Prop} (h : ∀ t, FrJ 34 (fun j => (2 ≤ j ∧ j ≤ 11) ∨ j = 27) s t → (∀ k, 0 ≤ k → k < 8 → t 34 2 k = s 34 12 k) → (∀ k, 8 ≤ k → k < 18 → ¬ k = 14 → t 34 2 k = 0) → t 34 2 14 = s 34 2 14 → (∀ b : Nat, 1 ≤ b → b ≤ 9 → ∀ k : Int, 0 ≤ k → k < mdN b → t 34 (2 + b) k = s 34 (12 + b) k) → (∀ k, 0 ≤ k → k < 9 → t 34 27 k = 0) → Q (t 34 2 0) t) : T_md_shop_94 Q s := by
  unfold T_md_shop_94
  have weights : ∀ (u : Mem), (∀ t, FrJ 34 (fun j => j = 27) u t → (∀ k, 0 ≤ k → k < 9 → t 34 27 k = 0) → Q (t 34 2 0) t) → K_md_shop_256 Q 0 u := fun u hu => by
    have loop : ∀ i : Int, ∀ t, 0 ≤ i → i ≤ 9 → FrJ 34 (fun j => j = 27) u t → (∀ c, 0 ≤ c → c < i → t 34 27 c = 0) → K_md_shop_256 Q i t := by
      refine fun i => ind_up (P := fun i => ∀ t, 0 ≤ i → i ≤ 9 → FrJ 34 (fun j => j = 27) u t → (∀ c, 0 ≤ c → c < i → t 34 27 c = 0) → K_md_shop_256 Q i t) 9 (fun i ih t h0 h1 hF hv => ?_) i
      refine b_md_shop_256 ?_
      unfold T_md_shop_256 T_md_shop_277
      rw [wr_id (x := i) (by omega) (by omega)]
      refine ⟨fun c => hu t hF (fun k k0 k1 => hv k k0 (by omega)), fun c => ⟨by omega, fun s3 x3 => ?_⟩⟩
      obtain ⟨y1, y2, y3⟩ := updM_f x3
      refine ih (by omega) s3 (by omega) (by omega) (hF.tr ⟨y1, fun j q => y2 j q⟩) (fun k k0 k1 => ?_)
      rw [y3]
      by_cases q : k = i
      · rw [uA_e _ q]
      · rw [uA_n _ q]
        exact hv k k0 (by omega)
    exact loop 0 u (by omega) (by omega) FrJ.rf (fun k k0 k1 => by omega)
  have rows : ∀ u : Mem, FrJ 34 (fun j => j = 2) s u → (∀ k, 0 ≤ k → k < 8 → u 34 2 k = s 34 12 k) → (∀ k, 8 ≤ k → k < 18 → u 34 2 k = 0) → T_md_shop_146 Q (s 34 2 14) u := fun u hF h8 h18 => by
    unfold T_md_shop_146
    intro s1 x1
    obtain ⟨a1, a2, a3⟩ := updM_f x1
    refine p_md_lay (ak rfl rfl) (ak rfl rfl) (by decide) (by decide) (fun v1 F1 e1 => p_md_lay (ak rfl rfl) (ak rfl rfl) (by decide) (by decide) (fun v2 F2 e2 => p_md_lay (ak rfl rfl) (ak rfl rfl) (by decide) (by decide) (fun v3 F3 e3 => p_md_lay (ak rfl rfl) (ak rfl rfl) (by decide) (by decide) (fun v4 F4 e4 => p_md_lay (ak rfl rfl) (ak rfl rfl) (by decide) (by decide) (fun v5 F5 e5 => p_md_lay (ak rfl rfl) (ak rfl rfl) (by decide) (by decide) (fun v6 F6 e6 => p_md_lay (ak rfl rfl) (ak rfl rfl) (by decide) (by decide) (fun v7 F7 e7 => p_md_lay (ak rfl rfl) (ak rfl rfl) (by decide) (by decide) (fun v8 F8 e8 => p_md_lay (ak rfl rfl) (ak rfl rfl) (by decide) (by decide) (fun v9 F9 e9 => weights v9 (fun t Ft t27 => ?_))))))))))
    have b1 : ∀ j, ¬ j = 3 → v1 34 j = s1 34 j := fun j q => F1.2 j q
    have b2 : ∀ j, ¬ (3 ≤ j ∧ j ≤ 4) → v2 34 j = s1 34 j := fun j q => by rw [F2.2 j (by omega), b1 j (by omega)]
    have b3 : ∀ j, ¬ (3 ≤ j ∧ j ≤ 5) → v3 34 j = s1 34 j := fun j q => by rw [F3.2 j (by omega), b2 j (by omega)]
    have b4 : ∀ j, ¬ (3 ≤ j ∧ j ≤ 6) → v4 34 j = s1 34 j := fun j q => by rw [F4.2 j (by omega), b3 j (by omega)]
    have b5 : ∀ j, ¬ (3 ≤ j ∧ j ≤ 7) → v5 34 j = s1 34 j := fun j q => by rw [F5.2 j (by omega), b4 j (by omega)]
    have b6 : ∀ j, ¬ (3 ≤ j ∧ j ≤ 8) → v6 34 j = s1 34 j := fun j q => by rw [F6.2 j (by omega), b5 j (by omega)]
    have b7 : ∀ j, ¬ (3 ≤ j ∧ j ≤ 9) → v7 34 j = s1 34 j := fun j q => by rw [F7.2 j (by omega), b6 j (by omega)]
    have b8 : ∀ j, ¬ (3 ≤ j ∧ j ≤ 10) → v8 34 j = s1 34 j := fun j q => by rw [F8.2 j (by omega), b7 j (by omega)]
    have b9 : ∀ j, ¬ (3 ≤ j ∧ j ≤ 11) → v9 34 j = s1 34 j := fun j q => by rw [F9.2 j (by omega), b8 j (by omega)]
    have s1r : ∀ j, ¬ j = 2 → s1 34 j = s 34 j := fun j q => by rw [a2 j q, hF.2 j q]
    have t2 : t 34 2 = uA (u 34 2) 14 (s 34 2 14) := by rw [Ft.2 2 (by omega), b9 2 (by omega), a3]
    refine h t ⟨fun o q => by rw [Ft.1 o q, F9.1 o q, F8.1 o q, F7.1 o q, F6.1 o q, F5.1 o q, F4.1 o q, F3.1 o q, F2.1 o q, F1.1 o q, a1 o q, hF.1 o q], fun j q => by rw [Ft.2 j (by omega), b9 j (by omega), s1r j (by omega)]⟩ (fun k k0 k1 => ?_) (fun k k0 k1 k2 => ?_) (by rw [t2, uA_s]) (fun b hb1 hb9 k k0 k1 => ?_) t27
    · rw [t2, uA_n _ (by omega)]; exact h8 k k0 k1
    · rw [t2, uA_n _ k2]; exact h18 k k0 k1
    · rw [Ft.2 (2 + b) (by omega)]
      rcases (show b = 1 ∨ b = 2 ∨ b = 3 ∨ b = 4 ∨ b = 5 ∨ b = 6 ∨ b = 7 ∨ b = 8 ∨ b = 9 by omega) with z | z | z | z | z | z | z | z | z <;> subst z
      · show v9 34 3 k = s 34 13 k
        rw [F9.2 3 (by omega), F8.2 3 (by omega), F7.2 3 (by omega), F6.2 3 (by omega), F5.2 3 (by omega), F4.2 3 (by omega), F3.2 3 (by omega), F2.2 3 (by omega), e1 k k0 k1, s1r 13 (by omega)]
      · show v9 34 4 k = s 34 14 k
        rw [F9.2 4 (by omega), F8.2 4 (by omega), F7.2 4 (by omega), F6.2 4 (by omega), F5.2 4 (by omega), F4.2 4 (by omega), F3.2 4 (by omega), e2 k k0 k1, b1 14 (by omega), s1r 14 (by omega)]
      · show v9 34 5 k = s 34 15 k
        rw [F9.2 5 (by omega), F8.2 5 (by omega), F7.2 5 (by omega), F6.2 5 (by omega), F5.2 5 (by omega), F4.2 5 (by omega), e3 k k0 k1, b2 15 (by omega), s1r 15 (by omega)]
      · show v9 34 6 k = s 34 16 k
        rw [F9.2 6 (by omega), F8.2 6 (by omega), F7.2 6 (by omega), F6.2 6 (by omega), F5.2 6 (by omega), e4 k k0 k1, b3 16 (by omega), s1r 16 (by omega)]
      · show v9 34 7 k = s 34 17 k
        rw [F9.2 7 (by omega), F8.2 7 (by omega), F7.2 7 (by omega), F6.2 7 (by omega), e5 k k0 k1, b4 17 (by omega), s1r 17 (by omega)]
      · show v9 34 8 k = s 34 18 k
        rw [F9.2 8 (by omega), F8.2 8 (by omega), F7.2 8 (by omega), e6 k k0 k1, b5 18 (by omega), s1r 18 (by omega)]
      · show v9 34 9 k = s 34 19 k
        rw [F9.2 9 (by omega), F8.2 9 (by omega), e7 k k0 k1, b6 19 (by omega), s1r 19 (by omega)]
      · show v9 34 10 k = s 34 20 k
        rw [F9.2 10 (by omega), e8 k k0 k1, b7 20 (by omega), s1r 20 (by omega)]
      · show v9 34 11 k = s 34 21 k
        rw [e9 k k0 k1, b8 21 (by omega), s1r 21 (by omega)]
  have loop : ∀ i : Int, ∀ t, 0 ≤ i → i ≤ 18 → FrJ 34 (fun j => j = 2) s t → (∀ k, 0 ≤ k → k < i → k < 8 → t 34 2 k = s 34 12 k) → (∀ k, 8 ≤ k → k < i → t 34 2 k = 0) → K_md_shop_105 Q (s 34 2 14) i t := by
    refine fun i => ind_up (P := fun i => ∀ t, 0 ≤ i → i ≤ 18 → FrJ 34 (fun j => j = 2) s t → (∀ k, 0 ≤ k → k < i → k < 8 → t 34 2 k = s 34 12 k) → (∀ k, 8 ≤ k → k < i → t 34 2 k = 0) → K_md_shop_105 Q (s 34 2 14) i t) 18 (fun i ih t h0 h1 hF hv hz => ?_) i
    refine b_md_shop_105 ?_
    unfold T_md_shop_105 T_md_shop_138 T_md_shop_139
    rw [wr_id (x := i) (by omega) (by omega)]
    have step : ∀ y : Int, i < 18 → (i < 8 → y = s 34 12 i) → (8 ≤ i → y = 0) → ∀ s1, s1 = updM t 34 2 i y → K_md_shop_105 Q (s 34 2 14) (i + 1) s1 := fun y hi y1 y2 s1 x1 => by
      obtain ⟨a1, a2, a3⟩ := updM_f x1
      refine ih hi s1 (by omega) (by omega) (hF.tr ⟨a1, fun j q => a2 j q⟩) (fun k k0 k1 k2 => ?_) (fun k k0 k1 => ?_)
      · rw [a3]
        by_cases q : k = i
        · rw [uA_e _ q, q]; exact y1 (by omega)
        · rw [uA_n _ q]; exact hv k k0 (by omega) k2
      · rw [a3]
        by_cases q : k = i
        · rw [uA_e _ q]; exact y2 (by omega)
        · rw [uA_n _ q]; exact hz k k0 (by omega)
    refine ⟨fun c => rows t hF (fun k k0 k1 => hv k k0 (by omega) k1) (fun k k0 k1 => hz k k0 (by omega)), fun c => ⟨fun c2 => ⟨by omega, step 0 (by omega) (fun _ => by omega) (fun _ => rfl)⟩, fun c2 => ⟨by omega, by omega, step _ (by omega) (fun _ => by rw [hF.2 12 (by omega)]) (fun _ => by omega)⟩⟩⟩
  exact loop 0 s (by omega) (by omega) FrJ.rf (fun k k0 k1 _ => by omega) (fun k k0 k1 => by omega)
/-- a fresh Stand holds -/
theorem RS_open {S T U U0 M M0 : Nat → Int → Int} {D0 : Nat → Int → Int} {X : Nat → Int → Int} (hR : RSh D0 X) (e3 : EqN shN D0 S) (e4 : T 1 0 = 0 ∧ T 5 0 = 0 ∧ T 7 0 = 0 ∧ (∀ k, 0 ≤ k → k < 9 → T 2 k = 0) ∧ (∀ c, 0 ≤ c → c < 6 → T 6 c = 0)) (e2 : U 6 0 = 0 ∧ U 7 0 = 0 ∧ U 8 0 = 0 ∧ U 9 0 = 0 ∧ U 10 0 = 0 ∧ U 11 0 = 0 ∧ U 12 = U0 12) (h0 : U0 12 0 = M0 0 14 ∧ 0 ≤ M0 0 14 ∧ M0 0 14 ≤ 2147483647)
    (m0 : ∀ k, 0 ≤ k → k < 8 → M 0 k = X 0 k) (m1 : ∀ k, 8 ≤ k → k < 18 → ¬ k = 14 → M 0 k = 0) (m2 : M 0 14 = M0 0 14) (m3 : ∀ b : Nat, 1 ≤ b → b ≤ 9 → ∀ k : Int, 0 ≤ k → k < mdN b → M b k = X b k) (m4 : ∀ k, 0 ≤ k → k < 9 → M 15 k = 0) : RS S T U M 9999 := by
  obtain ⟨t1, t5, t7, t2, t6⟩ := e4
  obtain ⟨u6, u7, u8, u9, u10, u11, u12⟩ := e2
  refine ⟨?_, ⟨⟨?_, fun k k0 k1 => ?_⟩, fun k k0 k1 => ?_, ⟨?_, fun k k0 k1 => ?_⟩, ?_, fun k k0 k1 => ?_, fun c c0 c1 => ?_⟩, ⟨?_, ?_, ?_, ?_, ?_, ?_⟩, ?_, fun e e0 ee => ?_⟩
  · refine RSh_x (M := fun a => if 1 ≤ a ∧ a ≤ 9 then X a else M a) e3 (fun a k k0 k1 => ?_) (RSh_u hR (fun k k0 k1 => ?_) (fun a a1 a9 => ?_))
    · have k1 : k < (mdN a : Int) := k1
      show M a k = (if 1 ≤ a ∧ a ≤ 9 then X a else M a) k
      by_cases q : 1 ≤ a ∧ a ≤ 9
      · rw [if_pos q]; exact m3 a q.1 q.2 k k0 k1
      · rw [if_neg q]
    · show (if 1 ≤ 0 ∧ 0 ≤ 9 then X 0 else M 0) k = X 0 k
      rw [if_neg (by omega)]
      exact m0 k k0 k1
    · show (if 1 ≤ a ∧ a ≤ 9 then X a else M a) = X a
      rw [if_pos ⟨a1, a9⟩]
  · rw [m1 15 (by omega) (by omega) (by omega)]; omega
  · rw [m1 15 (by omega) (by omega) (by omega)] at k1; omega
  · rw [m4 k (by omega) k1, t2 k (by omega) k1]; omega
  · rw [m1 16 (by omega) (by omega) (by omega)]; omega
  · rw [m1 16 (by omega) (by omega) (by omega)] at k1; omega
  · rw [m1 17 (by omega) (by omega) (by omega)]; omega
  · rw [m1 17 (by omega) (by omega) (by omega)] at k1; omega
  · rw [m1 17 (by omega) (by omega) (by omega)]; exact t6 c c0 c1
  · rw [m1 8 (by omega) (by omega) (by omega)]; exact u7
  · rw [m1 9 (by omega) (by omega) (by omega)]; exact u8
  · rw [m1 10 (by omega) (by omega) (by omega)]; exact u9
  · rw [m1 11 (by omega) (by omega) (by omega)]; exact u10
  · rw [m1 13 (by omega) (by omega) (by omega)]; omega
  · rw [m2, u12]; exact h0
  · rw [m1 12 (by omega) (by omega) (by omega)]; omega
  · rw [m1 12 (by omega) (by omega) (by omega)] at ee; omega
theorem g_shop {s : Mem} (h : Inv s) : Ag s W_ce_shop W_md_shop := by
  obtain ⟨tp1, tp2, tp3⟩ := h.2.1
  have hT : TX (s 1 0) (s 1 1 0) := ⟨tp1, fun i i0 i1 => (tp3 i i0 i1).1⟩
  refine w_ce_shop (b_ce_shop_0 (p_sr_read hT (q0 := s 1 2 0) ⟨rfl, rfl, rfl⟩ (fun t r D0 D' tl0 ho hr hz htl hs hq e21 s3 x3 => ?_)))
  obtain ⟨a1, a2, a3⟩ := updM_f x3
  have hN := hT.1
  generalize eT : s 1 0 = T at *
  generalize eN : s 1 1 0 = N at *
  obtain ⟨z4, z7, z8, z9, z10, z14, z15, z16⟩ := hz
  rw [wr_id (x := r) (by omega) (by omega)]
  have s3o : ∀ o, ¬ (o = 1 ∨ o = 20 ∨ o = 21) → s3 o = s o := fun o q => by rw [a1 o (by omega), ho o q]
  have s310 : s3 1 1 0 = 0 := by rw [a3, uA_s]
  have hD0 : DOK2 D0 tl0 := ⟨⟨by omega, fun b b0 b1 => by omega, fun x x0 x1 => by rw [htl x x0 x1]; have := (tab_ok ⟨x0, x1⟩).2.1; omega⟩, by rw [htl 0 (by omega) (by omega), z4], by rw [htl 1 (by omega) (by omega), z7], by rw [htl 5 (by omega) (by omega), z14]⟩
  have rb := shC_bd hN 33 0 D0 tl0 r D' (by omega) hs hD0
  -- the reference reads, whatever the class wrote
  have reads : ∀ (w : Mem) (Q : Int → Mem → Prop), w 34 = s 34 → (r ≤ 0 → ∀ m, FrJ 34 (fun j => shK j ∨ j = 32 ∨ j = 37 ∨ j = 38 ∨ j = 39) w m → m 34 32 0 = 0 → RSh D' (MN m) → T_md_shop_94 Q m) ∧ (¬ (r ≤ 0) → ∀ m, FrJ 34 (fun j => shK j ∨ j = 32 ∨ j = 37 ∨ j = 38 ∨ j = 39) w m → m 34 32 0 = 0 → Q (-2 - r) m) → W_md_shop w Q := fun w Q e34 hw => by
    refine w_md_shop (b_md_shop_0 (w_md_starts (b_md_starts_0 ?_)))
    intro w1 y1 w2 y2 w3 y3 w4 y4 w5 y5 w6 y6
    obtain ⟨b1, b2, b3⟩ := updM_f y1
    obtain ⟨c1, c2, c3⟩ := updM_f y2
    obtain ⟨d1, d2, d3⟩ := updM_f y3
    obtain ⟨e1, e2, e3⟩ := updM_f y4
    obtain ⟨f1, f2, f3⟩ := updM_f y5
    obtain ⟨g1, g2, g3⟩ := updM_f y6
    have F6 : FrJ 34 (fun j => shK j ∨ j = 32 ∨ j = 37 ∨ j = 38 ∨ j = 39) w w6 := ⟨fun o q => by rw [g1 o q, f1 o q, e1 o q, d1 o q, c1 o q, b1 o q], fun j q => by
      have q : ¬ (shK j ∨ j = 32 ∨ j = 37 ∨ j = 38 ∨ j = 39) := q
      unfold shK shJ at q
      rw [g2 j (by omega), f2 j (by omega), e2 j (by omega), d2 j (by omega), c2 j (by omega), b2 j (by omega)]⟩
    have w633 : w6 34 33 0 = 0 := by rw [g2 33 (by omega), f2 33 (by omega), e2 33 (by omega), d2 33 (by omega), c2 33 (by omega), b3, uA_s]
    have w634 : w6 34 34 0 = 0 := by rw [g2 34 (by omega), f2 34 (by omega), e2 34 (by omega), d2 34 (by omega), c3, uA_s]
    have w642 : w6 34 42 0 = 0 := by rw [g3, uA_s]
    have w6r : ∀ j, j = 32 ∨ j = 43 → w6 34 j = s 34 j := fun j q => by rw [g2 j (by omega), f2 j (by omega), e2 j (by omega), d2 j (by omega), c2 j (by omega), b2 j (by omega), e34]
    have zero : ∀ i : Int, ∀ u, 0 ≤ i → i ≤ 8 → FrJ 34 (fun j => j = 12) w6 u → (∀ k, 0 ≤ k → k < i → u 34 12 k = 0) → K_md_shop_6 Q i u := by
      refine fun i => ind_up (P := fun i => ∀ u, 0 ≤ i → i ≤ 8 → FrJ 34 (fun j => j = 12) w6 u → (∀ k, 0 ≤ k → k < i → u 34 12 k = 0) → K_md_shop_6 Q i u) 8 (fun i ih u h0 h1 hF hv => ?_) i
      refine b_md_shop_6 ?_
      unfold T_md_shop_6 T_md_shop_25
      rw [wr_id (x := i) (by omega) (by omega)]
      refine ⟨fun c => ?_, fun c => ⟨by omega, fun s3 x3 => ?_⟩⟩
      · have u12 : ∀ k, 0 ≤ k → k < 8 → u 34 12 k = 0 := fun k k0 k1 => hv k k0 (by omega)
        have Cu : RX u T N 0 := ⟨by rw [hF.2 32 (by omega), w6r 32 (by omega)]; exact tp2, by rw [hF.2 33 (by omega)]; exact w633, fun i i0 i1 => by rw [hF.2 43 (by omega), w6r 43 (by omega)]; exact (tp3 i i0 i1).2⟩
        have Ru : RSh D0 (MN u) := by
          have n0 : ∀ k, 0 ≤ k → k < 8 → MN u 0 k = 0 := u12
          refine ⟨⟨by rw [n0 0 (by omega) (by omega)]; omega, by rw [n0 0 (by omega) (by omega)]; exact z4, fun b b0 b1 => by rw [n0 0 (by omega) (by omega)] at b1; omega⟩, ⟨by omega, by rw [n0 1 (by omega) (by omega)]; omega, ?_, fun k k0 k1 => by rw [n0 1 (by omega) (by omega)] at k1; omega⟩, ⟨by rw [n0 2 (by omega) (by omega)]; omega, by rw [n0 3 (by omega) (by omega)]; omega, by rw [n0 4 (by omega) (by omega)]; omega, by rw [n0 6 (by omega) (by omega)]; omega, by rw [n0 7 (by omega) (by omega)]; omega⟩, by rw [n0 5 (by omega) (by omega)]; omega, fun f f0 ff => by rw [n0 5 (by omega) (by omega)] at ff; omega⟩
          rw [n0 1 (by omega) (by omega), z7]
          rfl
        refine p_md_shopL (v := u) hT (fun m Fm m32 mb mr m12 mR => ?_) 33 0 0 D0 tl0 u (by omega) (by omega) FrJ.rf (by omega) hs Cu (by rw [hF.2 34 (by omega)]; exact w634) Ru hD0 (by rw [u12 1 (by omega) (by omega), htl 1 (by omega) (by omega)]) ⟨0, by omega, by rw [hF.2 42 (by omega)]; exact w642, fun k hk => by rw [htl k (by omega) (by omega), Nat.zero_testBit]; exact (if_neg (by decide)).symm⟩
        have Fwm : FrJ 34 (fun j => shK j ∨ j = 32 ∨ j = 37 ∨ j = 38 ∨ j = 39) w m := F6.tr ((hF.mono (fun j q => Or.inl (by unfold shK shJ; omega))).tr (Fm.mono (fun j q => Or.inl q)))
        -- behind the fault of a text with no BALE
        have t74 : ∀ m2, FrJ 34 (fun j => j = 34) m m2 → m2 34 34 0 = r → T_md_shop_74 Q m2 := fun m2 F2 e2 => by
          unfold T_md_shop_74
          intro m3 q3
          obtain ⟨i1, i2, i3⟩ := updM_f q3
          have F3 : FrJ 34 (fun j => shK j ∨ j = 32 ∨ j = 37 ∨ j = 38 ∨ j = 39) w m3 := Fwm.tr ((F2.mono (fun j q => Or.inl (by unfold shK shJ; omega))).tr ⟨i1, fun j q => i2 j (fun z => q (by rw [z]; exact Or.inr (Or.inl rfl)))⟩)
          have z32 : m3 34 32 0 = 0 := by rw [i3, uA_s]
          rw [i2 34 (by omega), e2, wr_id (x := r) (by omega) (by omega)]
          refine ⟨fun c => hw.1 c m3 F3 z32 ?_, fun c => hw.2 c m3 F3 z32⟩
          have e : ∀ b, b ≤ 9 → MN m3 b = MN m b := fun b hb => by
            show m3 34 (12 + b) = m 34 (12 + b)
            rw [i2 _ (by omega), F2.2 _ (by omega)]
          exact RSh_u (mR (by omega)) (fun k _ _ => by rw [e 0 (by omega)]) (fun b b1 b9 => e b b9)
        unfold T_md_shop_49
        rw [wr_id (x := m 34 34 0) (by omega) (by omega)]
        refine ⟨fun c => t74 m FrJ.rf (by rw [if_neg (fun q => c q.1)] at mr; exact mr), fun c => ?_⟩
        have c := Decidable.byContradiction c
        rw [wr_id (x := m 34 12 0) (by omega) (by omega)]
        refine ⟨fun c2 => t74 m FrJ.rf (by rw [if_neg (fun q => c2 q.2)] at mr; exact mr), fun c2 => p_md_fails c (by omega) (fun m2 F2 e2 => t74 m2 F2 ?_)⟩
        rw [e2, m32, ← mr, if_pos ⟨c, Decidable.byContradiction c2⟩]
        unfold flt
        rw [if_pos rfl]
        omega
      · obtain ⟨q1, q2, q3⟩ := updM_f x3
        refine ih (by omega) s3 (by omega) (by omega) (hF.tr ⟨q1, fun j q => q2 j q⟩) (fun k k0 k1 => ?_)
        rw [q3]
        by_cases q : k = i
        · rw [uA_e _ q]
        · rw [uA_n _ q]
          exact hv k k0 (by omega)
    exact zero 0 w6 (by omega) (by omega) FrJ.rf (fun k k0 k1 => by omega)
  have row : ∀ (w m : Mem), w 34 = s 34 → FrJ 34 (fun j => shK j ∨ j = 32 ∨ j = 37 ∨ j = 38 ∨ j = 39) w m → ∀ j, ¬ ((12 ≤ j ∧ j ≤ 21) ∨ (32 ≤ j ∧ j ≤ 34) ∨ (37 ≤ j ∧ j ≤ 39) ∨ j = 42) → m 34 j = s 34 j := fun w m e F j q => by
    rw [F.2 j (by unfold shK shJ; omega), e]
  have e3 : s3 34 = s 34 := s3o 34 (by omega)
  refine ⟨fun c => ?_, fun c => ?_⟩
  · subst c
    have e21 := e21 rfl
    refine p_sd_open (fun u uo u3 u4 u2 => ?_)
    have e34 : u 34 = s 34 := by rw [uo 34 (by omega), e3]
    refine reads u _ e34 ⟨fun _ m Fm m32 mR => ?_, fun z => absurd (Int.le_refl 0) z⟩
    have rm := row u m e34 Fm
    refine p_md_opens (fun v Fv v8 v18 v14 vb v27 => ?_)
    have vo : ∀ o, ¬ o = 34 → v o = u o := fun o q => by rw [Fv.1 o q, Fm.1 o q]
    have us : ∀ o, ¬ ((1 ≤ o ∧ o ≤ 4) ∨ o = 20 ∨ o = 21) → u o = s o := fun o q => by rw [uo o (by omega), s3o o (by omega)]
    obtain ⟨h1, h2, h3, h4, h5, h6⟩ := h
    rw [a1 21 (by omega), e21] at u3
    have hRS : RS (v 3) (v 4) (v 2) (MM v) 9999 := by
      refine RS_open mR (by rw [vo 3 (by omega)]; exact u3) (by rw [vo 4 (by omega)]; exact u4) (U0 := s 2) (M0 := MM s) ?_ h1.2.2.1.2.2.2.2.2 v8 v18 ?_ (fun b b1 b9 k k0 k1 => by rw [show MM v b = v 34 (2 + b) by unfold MM mfld; rw [if_pos (by omega)]]; exact vb b b1 b9 k k0 k1) v27
      · rw [vo 2 (by omega), ← s3o 2 (by omega)]; exact u2
      · show v 34 2 14 = s 34 2 14
        rw [v14, rm 2 (by omega)]
    refine ⟨?_, hRS, Tap_0 (by rw [vo 1 (by omega), uo 1 (by omega)]; exact s310) (by rw [Fv.2 32 (by omega)]; exact m32), ?_, Img_of h4 (by rw [vo 0 (by omega), us 0 (by omega)]) (fun o q => by rw [vo o (by omega), us o (by omega)]) (by rw [Fv.2 67 (by omega), rm 67 (by omega)]) (by rw [Fv.2 68 (by omega), rm 68 (by omega)]), Rul_of h5 (by rw [vo 0 (by omega), us 0 (by omega)]) (by rw [Fv.2 36 (by omega), rm 36 (by omega)]) (fun o j q1 q2 _ => by rw [vo o (by omega), us o (by omega)]) (fun j j0 j1 => by rw [Fv.2 j (by omega), rm j (by omega)]), by rw [Fv.2 41 (by omega), rm 41 (by omega)]; exact h6⟩
    · have e4 := hRS.1.1.2.1
      rw [vo 3 (by omega)] at e4
      rw [e4]
      rfl
    · intro i i0 i1
      rw [vo 0 (by omega), us 0 (by omega), Fv.2 1 (by omega), rm 1 (by omega)]
      exact h3 i i0 i1
  · refine reads s3 _ e3 ⟨fun z => absurd z (by omega), fun _ m Fm m32 => ⟨rfl, ?_⟩⟩
    have rm := row s3 m e3 Fm
    refine Inv_txt h (fun o q => by rw [Fm.1 o (by omega), s3o o (by omega)]) (fun j hj q => rm j (by unfold kpJ at hj; omega)) (Tap_0 (by rw [Fm.1 1 (by omega)]; exact s310) m32)
