/-! ===== RULE ===== -/
theorem p_ru_copyFrom {o : Nat} {s : Mem} {Q : Mem → Prop} (ho : cls o = 2) (hne : ¬ o = 23) (h : ∀ t, (∀ o', ¬ o' = o → t o' = s o') → t o 1 0 = s 23 1 0 → t o 6 0 = s 23 6 0 → (∀ k, 0 ≤ k → k < 400 → t o 0 k = s 23 0 k) → (∀ j, 3 ≤ j → j ≤ 5 → ∀ k, 0 ≤ k → k < 12 → t o j k = s 23 j k) → (∀ k, 0 ≤ k → k < 12 → (s 23 2 k = 0 ∨ s 23 2 k = 1) → t o 2 k = s 23 2 k) → Q t) : W_ru_copyFrom o 23 s Q := by
  refine w_ru_copyFrom (b_ru_copyFrom_0 ho rfl ?_)
  intro s1 x1 s2 x2
  obtain ⟨a1, a2, a3⟩ := updM_f x1
  obtain ⟨b1, b2, b3⟩ := updM_f x2
  have o2 : ∀ o', ¬ o' = o → s2 o' = s o' := fun o' q => by rw [b1 o' q, a1 o' q]
  have h21 : s2 o 1 0 = s 23 1 0 := by rw [b2 1 (by omega), a3, uA_s]
  have h26 : s2 o 6 0 = s 23 6 0 := by rw [b3, uA_s, a1 23 (fun q => hne q.symm)]
  have second : ∀ i : Int, ∀ t, 0 ≤ i → i ≤ 12 → (∀ o', ¬ o' = o → t o' = s o') → t o 1 0 = s 23 1 0 → t o 6 0 = s 23 6 0 → (∀ k, 0 ≤ k → k < 400 → t o 0 k = s 23 0 k) → (∀ j, 3 ≤ j → j ≤ 5 → ∀ k, 0 ≤ k → k < i → t o j k = s 23 j k) → (∀ k, 0 ≤ k → k < i → (s 23 2 k = 0 ∨ s 23 2 k = 1) → t o 2 k = s 23 2 k) → K_ru_copyFrom_47 Q o 23 i t := by
    refine fun i => ind_up (P := fun i => ∀ t, 0 ≤ i → i ≤ 12 → (∀ o', ¬ o' = o → t o' = s o') → t o 1 0 = s 23 1 0 → t o 6 0 = s 23 6 0 → (∀ k, 0 ≤ k → k < 400 → t o 0 k = s 23 0 k) → (∀ j, 3 ≤ j → j ≤ 5 → ∀ k, 0 ≤ k → k < i → t o j k = s 23 j k) → (∀ k, 0 ≤ k → k < i → (s 23 2 k = 0 ∨ s 23 2 k = 1) → t o 2 k = s 23 2 k) → K_ru_copyFrom_47 Q o 23 i t) 12 (fun i ih t i0 i1 hO h1 h6 h0 h3 h2 => ?_) i
    refine b_ru_copyFrom_47 ho rfl ?_
    unfold T_ru_copyFrom_47 T_ru_copyFrom_107
    rw [wr_id (x := i) (by omega) (by omega)]
    refine ⟨fun c => h t hO h1 h6 h0 (fun j j0 j1 k k0 k1 => h3 j j0 j1 k k0 (by omega)) (fun k k0 k1 => h2 k k0 (by omega)), fun c => ⟨by omega, by omega, fun y y1 y2 s3 x3 => ⟨by omega, by omega, fun s4 x4 => ⟨by omega, by omega, fun s5 x5 => ⟨by omega, by omega, fun s6 x6 => ?_⟩⟩⟩⟩⟩
    obtain ⟨c1, c2, c3⟩ := updM_f x3
    obtain ⟨d1, d2, d3⟩ := updM_f x4
    obtain ⟨e1, e2, e3⟩ := updM_f x5
    obtain ⟨f1, f2, f3⟩ := updM_f x6
    have hn : ¬ 23 = o := fun q => hne q.symm
    have t23 : t 23 = s 23 := hO 23 hn
    have s323 : s3 23 = s 23 := by rw [c1 23 hn]; exact t23
    have s423 : s4 23 = s 23 := by rw [d1 23 hn]; exact s323
    have s523 : s5 23 = s 23 := by rw [e1 23 hn]; exact s423
    rw [t23] at y2
    refine ih (by omega) s6 (by omega) (by omega) (fun o' q => by rw [f1 o' q, e1 o' q, d1 o' q, c1 o' q]; exact hO o' q) (by rw [f2 1 (by omega), e2 1 (by omega), d2 1 (by omega), c2 1 (by omega)]; exact h1) (by rw [f2 6 (by omega), e2 6 (by omega), d2 6 (by omega), c2 6 (by omega)]; exact h6) (fun k k0 k1 => by rw [f2 0 (by omega), e2 0 (by omega), d2 0 (by omega), c2 0 (by omega)]; exact h0 k k0 k1) (fun j j0 j1 k k0 k1 => ?_) (fun k k0 k1 hk => ?_)
    · rcases (show j = 3 ∨ j = 4 ∨ j = 5 by omega) with z | z | z
      · subst z
        rw [f2 3 (by omega), e2 3 (by omega), d3, s323]
        by_cases q : k = i
        · rw [q, uA_s]
        · rw [uA_n _ q, c2 3 (by omega)]; exact h3 3 (by omega) (by omega) k k0 (by omega)
      · subst z
        rw [f2 4 (by omega), e3, s423]
        by_cases q : k = i
        · rw [q, uA_s]
        · rw [uA_n _ q, d2 4 (by omega), c2 4 (by omega)]; exact h3 4 (by omega) (by omega) k k0 (by omega)
      · subst z
        rw [f3, s523]
        by_cases q : k = i
        · rw [q, uA_s]
        · rw [uA_n _ q, e2 5 (by omega), d2 5 (by omega), c2 5 (by omega)]; exact h3 5 (by omega) (by omega) k k0 (by omega)
    · rw [f2 2 (by omega), e2 2 (by omega), d2 2 (by omega), c3]
      by_cases q : k = i
      · rw [q, uA_s]
        rw [q] at hk
        exact y2 hk
      · rw [uA_n _ q]; exact h2 k k0 (by omega) hk
  have first : ∀ i : Int, ∀ t, 0 ≤ i → i ≤ 400 → (∀ o', ¬ o' = o → t o' = s o') → t o 1 0 = s 23 1 0 → t o 6 0 = s 23 6 0 → (∀ k, 0 ≤ k → k < i → t o 0 k = s 23 0 k) → K_ru_copyFrom_18 Q o 23 i t := by
    refine fun i => ind_up (P := fun i => ∀ t, 0 ≤ i → i ≤ 400 → (∀ o', ¬ o' = o → t o' = s o') → t o 1 0 = s 23 1 0 → t o 6 0 = s 23 6 0 → (∀ k, 0 ≤ k → k < i → t o 0 k = s 23 0 k) → K_ru_copyFrom_18 Q o 23 i t) 400 (fun i ih t i0 i1 hO h1 h6 h0 => ?_) i
    refine b_ru_copyFrom_18 ho rfl ?_
    unfold T_ru_copyFrom_18 T_ru_copyFrom_45
    rw [wr_id (x := i) (by omega) (by omega)]
    refine ⟨fun c => second 0 t (by omega) (by omega) hO h1 h6 (fun k k0 k1 => h0 k k0 (by omega)) (fun j _ _ k k0 k1 => by omega) (fun k k0 k1 => by omega), fun c => ⟨by omega, by omega, fun s3 x3 => ?_⟩⟩
    obtain ⟨c1, c2, c3⟩ := updM_f x3
    refine ih (by omega) s3 (by omega) (by omega) (fun o' q => by rw [c1 o' q]; exact hO o' q) (by rw [c2 1 (by omega)]; exact h1) (by rw [c2 6 (by omega)]; exact h6) (fun k k0 k1 => ?_)
    rw [c3, hO 23 (fun q => hne q.symm)]
    by_cases q : k = i
    · rw [q, uA_s]
    · rw [uA_n _ q]; exact h0 k k0 (by omega)
  exact first 0 s2 (by omega) (by omega) o2 h21 h26 (fun k k0 k1 => by omega)
theorem RR_lo {R m m' : Nat → Int → Int} {r : Int} (h44 : ∀ k, k < 300 * r + 300 → m' 44 k = m 44 k ∧ m' 45 k = m 45 k) (h46 : m' 46 r = m 46 r) (h47 : ∀ j, 47 ≤ j → j ≤ 50 → ∀ i, i < 12 * r + 12 → m' j i = m j i) (h : RR R m r) : RR R m' r := by
  obtain ⟨⟨a1, a2, a3, a4⟩, b, c⟩ := h
  refine ⟨⟨a1, by rw [h46]; exact a2, a3, a4⟩, fun k k0 k1 => ?_, fun x x0 x1 => ?_⟩
  · rw [(h44 (300 * r + k) (by omega)).1, (h44 (300 * r + k) (by omega)).2]
    exact b k k0 k1
  · rw [h47 47 (by omega) (by omega) _ (by omega), h47 48 (by omega) (by omega) _ (by omega), h47 49 (by omega) (by omega) _ (by omega), h47 50 (by omega) (by omega) _ (by omega)]
    exact c x x0 x1
theorem RR_of {R D m : Nat → Int → Int} {r : Int} (hc : 0 ≤ D 6 0 ∧ D 6 0 ≤ 12) (hn : 0 ≤ D 1 0 ∧ D 1 0 ≤ 299) (h46 : m 46 r = D 6 0) (hD : RD D m r (D 6 0) (D 1 0)) (e1 : R 1 0 = D 1 0) (e6 : R 6 0 = D 6 0) (e0 : ∀ k, 0 ≤ k → k < 400 → R 0 k = D 0 k) (e3 : ∀ j, 3 ≤ j → j ≤ 5 → ∀ k, 0 ≤ k → k < 12 → R j k = D j k) (e2 : ∀ k, 0 ≤ k → k < 12 → (D 2 k = 0 ∨ D 2 k = 1) → R 2 k = D 2 k) : RR R m r := by
  obtain ⟨b, c⟩ := hD
  refine ⟨⟨by omega, by omega, by omega, by omega⟩, fun k k0 k1 => ?_, fun x x0 x1 => ?_⟩
  · rw [e0 k k0 (by omega)]
    exact b k k0 (by omega)
  · obtain ⟨c1, c2, c3, c4, c5, c6⟩ := c x x0 (by omega)
    have ek : ∀ a b, 0 ≤ a → b ≤ 299 → kindsL (R 0) a b = kindsL (D 0) a b := fun a b _ _ => kindsL_eq (fun k k0 k1 => e0 k (by omega) (by omega))
    rw [e2 x x0 (by omega) (c1.elim (fun z => Or.inr z.1) (fun z => Or.inl z.1)), e3 3 (by omega) (by omega) x x0 (by omega), e3 4 (by omega) (by omega) x x0 (by omega), e3 5 (by omega) (by omega) x x0 (by omega), ek _ _ (by omega) (by omega), ek _ _ (by omega) (by omega), e1]
    exact ⟨c1, c2, c3, c4, c5, c6⟩
theorem Inv_rule {s t : Mem} (h : Inv s) (ho : ∀ o, ¬ (o = 0 ∨ o = 1 ∨ (20 ≤ o ∧ o ≤ 34)) → t o = s o) (h0 : ∀ j, ¬ j = 6 → t 0 j = s 0 j) (hm : ∀ j, kpJ j → ¬ (j = 32 ∨ j = 36 ∨ (44 ≤ j ∧ j ≤ 50)) → t 34 j = s 34 j) (hT : Tap t) (hR : Rul t) : Inv t := by
  obtain ⟨a1, a2, a3, a4, a5, a6⟩ := h
  refine ⟨?_, hT, ?_, Img_of a4 (h0 4 (by omega)) (fun o q => ho o (by omega)) (hm 67 (by unfold kpJ; omega) (by omega)) (hm 68 (by unfold kpJ; omega) (by omega)), hR, by rw [hm 41 (by unfold kpJ; omega) (by omega)]; exact a6⟩
  · unfold RSm at a1 ⊢
    rw [ho 3 (by omega), ho 4 (by omega), ho 2 (by omega)]
    exact RS_M (fun a ha => hm _ (kpJ_mfld ha) (by unfold mfld; split <;> omega)) a1
  · unfold Sts at a3 ⊢
    rw [h0 7 (by omega), hm 1 (by unfold kpJ; omega) (by omega)]
    exact a3
def ryJ (j : Nat) : Prop := rxJ j ∨ j = 32 ∨ j = 35 ∨ j = 36 ∨ j = 39 ∨ j = 42 ∨ j = 46
theorem g_rule {s : Mem} (h : Inv s) : Ag s W_ce_rule W_md_rule := by
  obtain ⟨tp1, tp2, tp3⟩ := h.2.1
  have hT : TX (s 1 0) (s 1 1 0) := ⟨tp1, fun i i0 i1 => (tp3 i i0 i1).1⟩
  obtain ⟨rb, re, rr⟩ := h.2.2.2.2.1
  have h41 := h.2.2.2.2.2
  have hN := hT.1
  generalize eρ : s 0 6 0 = ρ at rb re rr
  refine w_ce_rule (b_ce_rule_0 ?_)
  unfold T_ce_rule_0
  rw [eρ, wr_id (x := ρ) (by omega) (by omega)]
  refine ⟨fun c => ?_, fun c => ?_⟩
  rotate_left
  · refine w_md_rule (b_md_rule_0 ?_)
    unfold T_md_rule_0
    rw [re, wr_id (x := ρ) (by omega) (by omega)]
    exact br_f (by omega) ⟨rfl, h⟩
  have hρ : 0 ≤ ρ ∧ ρ < 6 := by omega
  unfold T_ce_rule_11
  refine p_rr_read hT (q0 := s 1 2 0) ⟨rfl, rfl, rfl⟩ (fun t r D0 D' F rbd hz hs e23 s3 x3 => ?_)
  obtain ⟨a1, a2, a3⟩ := updM_f x3
  generalize eT : s 1 0 = T at *
  generalize eN : s 1 1 0 = N at *
  rw [wr_id (x := r) (by omega) (by omega)]
  have s3o : ∀ o, ¬ (o = 1 ∨ o = 22 ∨ o = 23) → s3 o = s o := fun o q => by rw [a1 o (by omega), F o q]
  have s310 : s3 1 1 0 = 0 := by rw [a3, uA_s]
  have e34 : s3 34 = s 34 := s3o 34 (by omega)
  -- the reference reads, whatever the class wrote
  have reads : ∀ (w : Mem) (Q : Int → Mem → Prop), w 34 = s 34 → (∀ m a', FrJ 34 ryJ w m → m 34 32 0 = 0 → Lo w m ρ → m 34 46 = uA (w 34 46) ρ a' → m 34 36 0 = (if r = 0 then ρ + 1 else ρ) → (r = 0 → (0 ≤ a' ∧ a' ≤ 12) ∧ D' 6 0 = a' ∧ (0 ≤ D' 1 0 ∧ D' 1 0 ≤ 299) ∧ RD D' (m 34) ρ a' (D' 1 0)) → Q (if r = 0 then ρ else -2 - r) m) → W_md_rule w Q := fun w Q ew hw => by
    refine w_md_rule (b_md_rule_0 ?_)
    unfold T_md_rule_0 T_md_rule_11
    rw [ew, re, wr_id (x := ρ) (by omega) (by omega)]
    refine br_t (by omega) ?_
    intro w0 y0
    obtain ⟨o1, o2, o3⟩ := updM_f y0
    refine w_md_starts (b_md_starts_0 ?_)
    intro w1 y1 w2 y2 w3 y3 w4 y4 w5 y5 w6 y6
    obtain ⟨b1, b2, b3⟩ := updM_f y1
    obtain ⟨c1, c2, c3⟩ := updM_f y2
    obtain ⟨d1, d2, d3⟩ := updM_f y3
    obtain ⟨e1, e2, e3⟩ := updM_f y4
    obtain ⟨f1, f2, f3⟩ := updM_f y5
    obtain ⟨g1, g2, g3⟩ := updM_f y6
    have w6r : ∀ j, ¬ (j = 33 ∨ j = 34 ∨ j = 35 ∨ j = 37 ∨ j = 38 ∨ j = 39 ∨ j = 42) → w6 34 j = w 34 j := fun j q => by rw [g2 j (by omega), f2 j (by omega), e2 j (by omega), d2 j (by omega), c2 j (by omega), b2 j (by omega), o2 j (by omega)]
    have F6 : FrJ 34 ryJ w w6 := ⟨fun o q => by rw [g1 o q, f1 o q, e1 o q, d1 o q, c1 o q, b1 o q, o1 o q], fun j q => w6r j (by unfold ryJ rxJ rwJ at q; omega)⟩
    have Z6 : RZ w6 T N 0 0 0 ρ := by
      refine ⟨⟨by rw [w6r 32 (by omega), ew]; exact tp2, ?_, fun i i0 i1 => by rw [w6r 43 (by omega), ew]; exact (tp3 i i0 i1).2⟩, ?_, ?_, ?_, by rw [w6r 41 (by omega), ew]; exact h41⟩
      · rw [g2 33 (by omega), f2 33 (by omega), e2 33 (by omega), d2 33 (by omega), c2 33 (by omega), b3, uA_s]
      · rw [g2 39 (by omega), f3, uA_s]
      · rw [g2 37 (by omega), f2 37 (by omega), e2 37 (by omega), d3, uA_s]
      · rw [g2 35 (by omega), f2 35 (by omega), e2 35 (by omega), d2 35 (by omega), c2 35 (by omega), b2 35 (by omega), o3, uA_s]
    have z34 : w6 34 34 0 = 0 := by rw [g2 34 (by omega), f2 34 (by omega), e2 34 (by omega), d2 34 (by omega), c3, uA_s]
    have z38 : w6 34 38 0 = 0 := by rw [g2 38 (by omega), f2 38 (by omega), e3, uA_s]
    refine p_md_ruleL (v := w6) hT hρ (fun m a' Fm em rb2 Lm gm => ?_) 13 0 0 0 0 D0 w6 (by omega) (by omega) FrJ.rf Lo.rf Z6 z34 z38 (by omega) (by omega) (by omega) hs ⟨fun k k0 k1 => by omega, fun c c0 c1 => by omega⟩
    have m35 : m 34 35 0 = ρ := by rw [Fm.2 35 (by unfold rxJ rwJ; omega)]; exact Z6.2.2.2.1
    have m36 : m 34 36 0 = ρ := by rw [Fm.2 36 (by unfold rxJ rwJ; omega), w6r 36 (by omega), ew]; exact re
    have m46 : m 34 46 = w 34 46 := by rw [Fm.2 46 (by unfold rxJ rwJ; omega), w6r 46 (by omega)]
    unfold T_md_rule_47
    intro n1 z1
    obtain ⟨h1, h2, h3⟩ := updM_f z1
    rw [h2 35 (by omega), m35, wr_id (x := ρ) (by omega) (by omega)]
    refine ⟨hρ, fun n2 z2 => ?_⟩
    obtain ⟨i1, i2, i3⟩ := updM_f z2
    have n34 : n2 34 34 0 = r := by rw [i2 34 (by omega), h2 34 (by omega)]; exact em
    have n36 : n2 34 36 0 = ρ := by rw [i2 36 (by omega), h2 36 (by omega)]; exact m36
    rw [n34, n36, wr_id (x := r) (by omega) (by omega)]
    have last : ∀ y : Int, y = (if r = 0 then 1 else 0) → T_md_rule_79 Q ρ y n2 := fun y ey => by
      unfold T_md_rule_79 T_md_rule_100 T_md_rule_106
      intro n3 z3
      obtain ⟨j1, j2, j3⟩ := updM_f z3
      have n334 : n3 34 34 0 = r := by rw [j2 34 (by omega)]; exact n34
      have n336 : n3 34 36 0 = ρ + y := by rw [j3, uA_s]
      have F3 : FrJ 34 ryJ w n3 := F6.tr ((Fm.mono (fun j q => Or.inl q)).tr ⟨fun o q => by rw [j1 o q, i1 o q, h1 o q], fun j q => by
        have q : ¬ ryJ j := q
        unfold ryJ at q
        rw [j2 j (by omega), i2 j (by omega), h2 j (by omega)]⟩)
      have hh := hw n3 a' F3 (by rw [j2 32 (by omega), i2 32 (by omega), h3, uA_s]) (((Lo.fr (S := fun j => j = 33 ∨ j = 34 ∨ j = 35 ∨ j = 37 ∨ j = 38 ∨ j = 39 ∨ j = 42) ⟨fun o q => by rw [g1 o q, f1 o q, e1 o q, d1 o q, c1 o q, b1 o q, o1 o q], fun j q => w6r j q⟩ (fun j _ _ => by omega)).tr Lm).tr ⟨fun k _ => ⟨by rw [j2 44 (by omega), i2 44 (by omega), h2 44 (by omega)], by rw [j2 45 (by omega), i2 45 (by omega), h2 45 (by omega)]⟩, fun j j0 j1' i _ => by rw [j2 j (by omega), i2 j (by omega), h2 j (by omega)]⟩) (by rw [j2 46 (by omega), i3, h2 46 (by omega), m46]) (by rw [n336, ey]; split <;> omega) (fun z => ?_)
      · rw [n334, n336, wr_id (x := r) (by omega) (by omega)]
        refine ⟨fun z => ?_, fun z => ?_⟩
        · have z : r = 0 := by omega
          rw [if_pos z] at hh ey
          rw [ey, show ρ + 1 - 1 = ρ by omega]
          exact hh
        · rw [if_neg (by omega)] at hh
          exact hh
      · obtain ⟨k1, k2, k3, k4⟩ := gm z
        refine ⟨k1, k2, k3, ?_⟩
        unfold RD at k4 ⊢
        rw [j2 44 (by omega), i2 44 (by omega), h2 44 (by omega), j2 45 (by omega), i2 45 (by omega), h2 45 (by omega), j2 47 (by omega), i2 47 (by omega), h2 47 (by omega), j2 48 (by omega), i2 48 (by omega), h2 48 (by omega), j2 49 (by omega), i2 49 (by omega), h2 49 (by omega), j2 50 (by omega), i2 50 (by omega), h2 50 (by omega)]
        exact k4
    unfold T_md_rule_78
    exact ⟨fun z => last 0 (by rw [if_neg z]), fun z => last 1 (by rw [if_pos (Decidable.byContradiction z)])⟩
  -- the rules that stood before
  have older : ∀ (w m : Mem) a', w 34 = s 34 → Lo w m ρ → m 34 46 = uA (w 34 46) ρ a' → ∀ r', 0 ≤ r' → r' < ρ → RR (s (28 + r'.toNat)) (m 34) r' := fun w m a' ew L e46 r' r0 r1 => by
    refine RR_lo (fun k hk => ?_) ?_ (fun j j0 j1 i hi => ?_) (rr r' r0 r1)
    · have := L.1 k (by omega)
      rw [ew] at this
      exact this
    · rw [e46, uA_n _ (by omega), ew]
    · have := L.2 j j0 j1 i (by omega)
      rw [ew] at this
      exact this
  have keep : ∀ (w m : Mem), w 34 = s 34 → FrJ 34 ryJ w m → ∀ j, kpJ j → ¬ (j = 32 ∨ j = 36 ∨ (44 ≤ j ∧ j ≤ 50)) → m 34 j = s 34 j := fun w m ew Fm j hj q => by
    rw [Fm.2 j (by unfold kpJ at hj; unfold ryJ rxJ rwJ; omega), ew]
  refine ⟨fun cr => ?_, fun cr => ?_⟩
  · subst cr
    have e23 := e23 rfl
    unfold T_ce_rule_40
    rw [s3o 0 (by omega), eρ, wr_id (x := ρ) (by omega) (by omega)]
    have hcls : cls (28 + ρ.toNat) = 2 := ce_rul (by omega)
    refine ⟨by omega, p_ru_copyFrom hcls (by omega) (fun u uo u1 u6 u0 u3 u2 s4 x4 => ?_)⟩
    obtain ⟨b1, b2, b3⟩ := updM_f x4
    have u00 : u 0 = s 0 := by rw [uo 0 (by omega), s3o 0 (by omega)]
    have s406 : s4 0 6 0 = ρ + 1 := by rw [b3, uA_s, u00, eρ]
    rw [s406]
    have ew : s4 34 = s 34 := by rw [b1 34 (by omega), uo 34 (by omega), e34]
    refine reads s4 _ ew (fun m a' Fm m32 Lm m46 m36 gm => ?_)
    rw [if_pos rfl] at m36 ⊢
    obtain ⟨k1, k2, k3, k4⟩ := gm rfl
    have mo : ∀ o, ¬ (o = 0 ∨ o = 1 ∨ (20 ≤ o ∧ o ≤ 34)) → m o = s o := fun o q => by rw [Fm.1 o (by omega), b1 o (by omega), uo o (by omega), s3o o (by omega)]
    refine ⟨by rw [show ρ + 1 - 1 = ρ by omega], Inv_rule h mo (fun j q => ?_) (keep s4 m ew Fm) (Tap_0 ?_ m32) ⟨?_, ?_, fun r' r0 r1 => ?_⟩⟩
    · rw [Fm.1 0 (by omega), b2 j q, u00]
    · rw [Fm.1 1 (by omega), b1 1 (by omega), uo 1 (by omega)]; exact s310
    · rw [Fm.1 0 (by omega), s406]; omega
    · rw [Fm.1 0 (by omega), s406]; exact m36
    · rw [Fm.1 0 (by omega), s406] at r1
      by_cases q : r' = ρ
      · subst q
        have um : m (28 + r'.toNat) = u (28 + r'.toNat) := by rw [Fm.1 _ (by omega), b1 _ (by omega)]
        have d23 : s3 23 = D' := by rw [a1 23 (by omega)]; exact e23
        rw [d23] at u1 u6 u0 u3 u2
        rw [um]
        refine RR_of (D := D') (by omega) k3 ?_ (by rw [k2]; exact k4) u1 u6 u0 u3 u2
        rw [m46, uA_s, k2]
      · have um : m (28 + r'.toNat) = s (28 + r'.toNat) := by rw [Fm.1 _ (by omega), b1 _ (by omega), uo _ (by omega), s3o _ (by omega)]
        rw [um]
        exact older s4 m a' ew Lm m46 r' r0 (by omega)
  · refine reads s3 _ e34 (fun m a' Fm m32 Lm m46 m36 _ => ?_)
    rw [if_neg cr] at m36 ⊢
    refine ⟨rfl, Inv_rule h (fun o q => by rw [Fm.1 o (by omega), s3o o (by omega)]) (fun j _ => by rw [Fm.1 0 (by omega), s3o 0 (by omega)]) (keep s3 m e34 Fm) (Tap_0 (by rw [Fm.1 1 (by omega)]; exact s310) m32) ⟨?_, ?_, fun r' r0 r1 => ?_⟩⟩
    · rw [Fm.1 0 (by omega), s3o 0 (by omega), eρ]; omega
    · rw [Fm.1 0 (by omega), s3o 0 (by omega), eρ]; exact m36
    · rw [Fm.1 0 (by omega), s3o 0 (by omega), eρ] at r1
      rw [Fm.1 _ (by omega), s3o _ (by omega)]
      exact older s3 m a' e34 Lm m46 r' r0 r1
