/-! ===== serve, day ===== -/
theorem Inv_run {s t : Mem} (h : Inv s) (h0 : ∀ j, j = 4 ∨ j = 6 → t 0 j = s 0 j) (hst : Sts t) (ho : ∀ o, o = 1 ∨ (8 ≤ o ∧ o ≤ 19) → t o = s o) (hr : ∀ o j, 28 ≤ o → o ≤ 33 → j < 7 → t o j = s o j) (hj : ∀ j, kpJ j → ¬ (j = 1 ∨ (2 ≤ j ∧ j ≤ 11) ∨ (22 ≤ j ∧ j ≤ 31)) → t 34 j = s 34 j) (hR : RSm t) : Inv t := by
  obtain ⟨a1, a2, a3, a4, a5, a6⟩ := h
  refine ⟨hR, ?_, hst, ?_, ?_, by rw [hj 41 (by unfold kpJ; omega) (by omega)]; exact a6⟩
  · unfold Tap at a2 ⊢
    rw [ho 1 (by omega), hj 32 (by unfold kpJ; omega) (by omega), hj 43 (by unfold kpJ; omega) (by omega)]
    exact a2
  · intro k k0 k1
    obtain ⟨b1, b2⟩ := a4 k k0 k1
    have e : MI t k = MI s k := by
      funext a i
      show t 34 67 _ = s 34 67 _
      rw [hj 67 (by unfold kpJ; omega) (by omega)]
    rw [h0 4 (by omega), hj 68 (by unfold kpJ; omega) (by omega), ho (8 + 3 * k.toNat + 1) (by omega), ho (8 + 3 * k.toNat + 2) (by omega), ho (8 + 3 * k.toNat) (by omega), e]
    exact ⟨b1, b2⟩
  · obtain ⟨b1, b2, b3⟩ := a5
    refine ⟨by rw [h0 6 (by omega)]; exact b1, by rw [h0 6 (by omega), hj 36 (by unfold kpJ; omega) (by omega)]; exact b2, fun r r0 r1 => ?_⟩
    rw [h0 6 (by omega)] at r1
    exact RR_R (fun j hj2 => hr _ j (by omega) (by omega) hj2) (fun j j0 j1 => hj j (by unfold kpJ; omega) (by omega)) (b3 r r0 r1)
theorem Mo_0 (v : Mem) : Mo v (fun _ => 0) = MM v := by
  funext a k
  unfold Mo
  split
  · exact Int.sub_zero _
  · rfl
theorem p_ce_hasRule {a : Int} {s : Mem} {Q : Int → Mem → Prop} (wa : wr a = a) (hn : 0 ≤ s 0 6 0 ∧ s 0 6 0 ≤ 6) (h : Q (b2 (0 ≤ a ∧ a < s 0 6 0)) s) : W_ce_hasRule a s Q := by
  refine w_ce_hasRule (b_ce_hasRule_0 (p_within wa (b' := 0) (by decide) (c' := s 0 6 0 - 1) (wr_id (by omega) (by omega)) ?_))
  intro _
  rw [b2_eq (p := 0 ≤ a ∧ a ≤ s 0 6 0 - 1) (q := 0 ≤ a ∧ a < s 0 6 0) (by omega)]
  exact h
theorem p_md_isRule {a : Int} {s : Mem} {Q : Int → Mem → Prop} (ha : I32 a) (hn : 0 ≤ s 34 36 0 ∧ s 34 36 0 ≤ 6) (h : Q (b2 (0 ≤ a ∧ a < s 34 36 0)) s) : W_md_isRule a s Q := by
  have e : wr (s 34 36 0 - 1) = s 34 36 0 - 1 := wr_id (by omega) (by omega)
  refine w_md_isRule (b_md_isRule_0 (p_in ha.wl (b' := 0) (by decide) (c' := s 34 36 0 - 1) (by rw [e]; exact wL_id (by omega) (by omega)) ?_))
  intro _
  rw [b2_eq (p := 0 ≤ a ∧ a ≤ s 34 36 0 - 1) (q := 0 ≤ a ∧ a < s 34 36 0) (by omega)]
  exact h
theorem Inv_rul {s : Mem} (h : Inv s) : (0 ≤ s 0 6 0 ∧ s 0 6 0 ≤ 6) ∧ s 34 36 0 = s 0 6 0 ∧ ∀ r : Int, 0 ≤ r → r < s 0 6 0 → RR (s (28 + r.toNat)) (s 34) r := h.2.2.2.2.1
theorem g_serve {s : Mem} (h : Inv s) {a b : Int} (ha : I32 a) (hb : I32 b) : Ag s (W_ce_serve a b) (W_md_serve a b) := by
  have wa := ha.w
  have wb := hb.w
  obtain ⟨r1, r2, r3⟩ := Inv_rul h
  have eu : ∀ i, updM s 0 7 i (s 0 7 i + 1) 34 = s 34 := fun i => updM_o _ (by omega)
  have rf : ¬ ((0 ≤ a ∧ a < s 0 6 0) ∧ (1 ≤ b ∧ b ≤ 480)) → W_ce_refuse 0 s (fun r u => W_md_serve a b u (fun r2 v => wr r = wr r2 ∧ Inv v)) := fun c => by
    refine p_ce_refuse (by omega) (w_md_serve (b_md_serve_0 (p_md_isRule ha (by rw [eu, r2]; exact r1) ?_)))
    rw [eu, r2]
    exact fun _ => (zt (fun c1 => p_in hb.wl (b' := 1) (by decide) (c' := 480) (by decide) (zf (fun c2 => absurd ⟨c1, c2⟩ c) (fun _ => p_md_refuses (by omega) (both_refuse h (by omega))))) (fun _ => p_md_refuses (by omega) (both_refuse h (by omega)))) (b2_01 _)
  refine w_ce_serve (b_ce_serve_0 (p_ce_hasRule wa r1 (zt (fun c1 => p_within wb (b' := 1) (by decide) (c' := 480) (by decide) (zf (fun c2 => ?_) (fun c2 => rf (fun z => c2 z.2)))) (fun c1 => rf (fun z => c1 z.1)))))
  unfold T_ce_serve_25 T_ce_serve_53 T_ce_serve_54
  rw [wa]
  have hRR := r3 a c1.1 c1.2
  refine ⟨by omega, p_sd_fillOrder (o := 2) (o1 := 28 + a.toNat) (M := MM s) (R := s (28 + a.toNat)) rfl (cls_ru (by omega)) (by omega) (by omega) h.1.1 (fun _ _ => rfl) hRR c2 (fun res t hF hE hM hC => ?_)⟩
  have t34 : t 34 = s 34 := hF 34 (by omega)
  have t0 : t 0 = s 0 := hF 0 (by omega)
  have model : ∀ (u : Mem) (Q : Int → Mem → Prop), u 34 = s 34 → (∀ m, FrV u m → RS (t 3) (s 4) (t 2) (MM m) 9999 → ((¬ wr res = (-1) → Q res m) ∧ (¬ (¬ wr res = (-1)) → W_md_refuses 1 m Q))) → W_md_serve a b u Q := by
    intro u Q e34 hQ
    refine w_md_serve (b_md_serve_0 (p_md_isRule ha (by rw [e34, r2]; exact r1) ?_))
    rw [e34, r2]
    refine zt (fun _ => p_in hb.wl (b' := 1) (by decide) (c' := 480) (by decide) (zf (fun _ => ?_) (fun z => absurd c2 z))) (fun z => absurd c1 z)
    have hM0 : MM u = MM s := by funext x; show u 34 _ = s 34 _; rw [e34]
    refine p_md_fill (c := fun _ => 0) (S := s 3) (T := s 4) (U := s 2) (D := 9999) (by omega) (by rw [Mo_0, hM0]; exact h.1) (R := s (28 + a.toNat)) (by rw [e34]; exact hRR) hC c2 (fun m f1 f2 f3 hm => ?_)
    rw [Mo_0] at hm
    unfold T_md_serve_46 T_md_serve_47
    exact hQ m f1 hm
  have fin : ∀ (u m : Mem), (∀ o, ¬ o = 0 → u o = t o) → (∀ j, ¬ j = 7 → u 0 j = t 0 j) → (∀ j, ¬ j = 1 → m 34 j = m 34 j) → FrV u m → RS (t 3) (s 4) (t 2) (MM m) 9999 → Sts m → Inv m := by
    intro u m uo u0 _ fm hm hst
    have mo : ∀ o, ¬ o = 34 → m o = u o := fun o ho => fm.1 o ho
    refine Inv_run h (fun j hj => by rw [mo 0 (by omega), u0 j (by omega), t0]) hst (fun o ho => by rw [mo o (by omega), uo o (by omega), hF o (by omega)]) (fun o j o0 o1 hj => ?_) (fun j hk hj => by unfold kpJ at hk; rw [fm.2 j (by omega), uo 34 (by omega), t34]) ?_
    · rw [mo o (by omega), uo o (by omega)]
      by_cases e : o = 28 + a.toNat
      · subst e
        exact hE j hj
      · rw [hF o (by omega)]
    · unfold RSm
      rw [mo 3 (by omega), mo 4 (by omega), mo 2 (by omega), uo 3 (by omega), uo 4 (by omega), uo 2 (by omega), hF 4 (by omega)]
      exact hm
  have hres : wr res = res := by
    have := bbl_bd (s (28 + a.toNat)) (s 3) (s 2 11 0) b (s 3 4 0).toNat 0 (-1) 0 (by omega) (Or.inl rfl)
    have e : res = bbl (s (28 + a.toNat)) (s 3) (s 2 11 0) b (s 3 4 0).toNat 0 (-1) 0 := hC.1
    have h4 := (Inv_bal h).2.1
    have h12 := (Inv_bal h).1
    rw [← e] at this
    exact wr_id (by omega) (by omega)
  refine ⟨fun c3 => ?_, fun c3 => p_ce_refuse (by omega) ?_⟩
  · refine model t _ t34 (fun m fm hm => br_t c3 ⟨rfl, fin t m (fun _ _ => rfl) (fun _ _ => rfl) (fun _ _ => rfl) fm hm ?_⟩)
    intro i i0 i1
    rw [fm.1 0 (by omega), t0, fm.2 1 (by omega), t34]
    exact h.2.2.1 i i0 i1
  · refine model _ _ (by rw [updM_o _ (by omega)]; exact t34) (fun m fm hm => br_f c3 (p_md_refuses (by omega) ⟨rfl, ?_⟩))
    have m0 : m 0 = updM t 0 7 1 (t 0 7 1 + 1) 0 := fm.1 0 (by omega)
    have m1 : m 34 1 = s 34 1 := by rw [fm.2 1 (by omega), updM_o _ (by omega), t34]
    have hm2 : ∀ j, ¬ j = 1 → updM m 34 1 1 (m 34 1 1 + 1) 34 j = m 34 j := fun j hj => updM_j _ hj
    have ho2 : ∀ o, ¬ o = 34 → updM m 34 1 1 (m 34 1 1 + 1) o = m o := fun o hoo => updM_o _ hoo
    have mo : ∀ o, ¬ o = 34 → ¬ o = 0 → m o = t o := fun o q1 q2 => by rw [fm.1 o q1, updM_o _ q2]
    refine Inv_run h (fun j hj => by rw [ho2 0 (by omega), m0, updM_j _ (by omega), t0]) ?_ (fun o ho => by rw [ho2 o (by omega), mo o (by omega) (by omega), hF o (by omega)]) (fun o j o0 o1 hj => ?_) (fun j hk hj => by unfold kpJ at hk; rw [hm2 j (by omega), fm.2 j (by omega), updM_o _ (by omega), t34]) ?_
    · intro i i0 i1
      rw [ho2 0 (by omega), m0, updM_s, updM_s, m1, t0]
      by_cases q : i = 1
      · subst q
        rw [uA_s, uA_s, h.2.2.1 1 (by omega) (by omega)]
      · rw [uA_n _ q, uA_n _ q]
        exact h.2.2.1 i i0 i1
    · rw [ho2 o (by omega), mo o (by omega) (by omega)]
      by_cases e : o = 28 + a.toNat
      · subst e
        exact hE j hj
      · rw [hF o (by omega)]
    · unfold RSm
      rw [ho2 3 (by omega), ho2 4 (by omega), ho2 2 (by omega), mo 3 (by omega) (by omega), mo 4 (by omega) (by omega), mo 2 (by omega) (by omega), hF 4 (by omega)]
      exact RS_M (fun x hx => hm2 _ (by unfold mfld; split <;> omega)) hm
theorem p_ce_isDay {k w : Int} {s : Mem} {Q : Int → Mem → Prop} (wk : wr k = k) (ww : wr w = w) (h : Q (b2 ((1 ≤ k ∧ k ≤ 40) ∧ (1 ≤ w ∧ w ≤ 80))) s) : W_ce_isDay k w s Q := by
  refine w_ce_isDay (b_ce_isDay_0 (p_within wk (b' := 1) (by decide) (c' := 40) (by decide) (zt (fun c1 => p_within ww (b' := 1) (by decide) (c' := 80) (by decide) (zt (fun c2 => ?_) (fun c2 => ?_))) (fun c1 => ?_))))
  · rw [b2_t ⟨c1, c2⟩] at h
    exact ⟨Or.inr rfl, h⟩
  · rw [b2_f (fun z => c2 z.2)] at h
    exact ⟨Or.inl rfl, h⟩
  · rw [b2_f (fun z => c1 z.1)] at h
    exact ⟨Or.inl rfl, h⟩
theorem p_md_isDay {r k w : Int} {s : Mem} {Q : Int → Mem → Prop} (hr : I32 r) (hk : I32 k) (hw : I32 w) (hn : 0 ≤ s 34 36 0 ∧ s 34 36 0 ≤ 6) (h : Q (b2 ((0 ≤ r ∧ r < s 34 36 0) ∧ (1 ≤ k ∧ k ≤ 40) ∧ (1 ≤ w ∧ w ≤ 80))) s) : W_md_isDay r k w s Q := by
  refine w_md_isDay (b_md_isDay_0 (p_md_isRule hr hn (zt (fun c0 => p_in hk.wl (b' := 1) (by decide) (c' := 40) (by decide) (zt (fun c1 => p_in hw.wl (b' := 1) (by decide) (c' := 80) (by decide) (zt (fun c2 => ?_) (fun c2 => ?_))) (fun c1 => ?_))) (fun c0 => ?_))))
  · rw [b2_t ⟨c0, c1, c2⟩] at h
    exact ⟨Or.inr rfl, h⟩
  · rw [b2_f (fun z => c2 z.2.2)] at h
    exact ⟨Or.inl rfl, h⟩
  · rw [b2_f (fun z => c1 z.2.1)] at h
    exact ⟨Or.inl rfl, h⟩
  · rw [b2_f (fun z => c0 z.1)] at h
    exact ⟨Or.inl rfl, h⟩
theorem g_day {s : Mem} (h : Inv s) {a k w : Int} (ha : I32 a) (hk : I32 k) (hw : I32 w) : Ag s (W_ce_day a k w) (W_md_day a k w) := by
  have wa := ha.w
  obtain ⟨r1, r2, r3⟩ := Inv_rul h
  obtain ⟨s1, s2, s3, s4, s5, s6⟩ := h.1.2.2.1
  have s5 : s 2 11 0 = s 34 2 13 ∧ 0 ≤ s 34 2 13 ∧ s 34 2 13 ≤ 9999 := s5
  have s6 : s 2 12 0 = s 34 2 14 ∧ 0 ≤ s 34 2 14 ∧ s 34 2 14 ≤ 2147483647 := s6
  have w13 : wr (s 34 2 13) = s 34 2 13 := wr_id (by omega) (by omega)
  have eu : ∀ i, updM s 0 7 i (s 0 7 i + 1) 34 = s 34 := fun i => updM_o _ (by omega)
  have rf : ¬ (((0 ≤ a ∧ a < s 0 6 0) ∧ (1 ≤ k ∧ k ≤ 40) ∧ (1 ≤ w ∧ w ≤ 80)) ∧ ¬ s 34 2 13 = 9999) → W_ce_refuse 0 s (fun r u => W_md_day a k w u (fun r2 v => wr r = wr r2 ∧ Inv v)) := fun c => by
    refine p_ce_refuse (by omega) (w_md_day (b_md_day_0 (p_md_isDay ha hk hw (by rw [eu, r2]; exact r1) ?_)))
    rw [eu, r2]
    refine zt (fun c1 => ?_) (fun _ => p_md_refuses (by omega) (both_refuse h (by omega)))
    rw [w13]
    exact ⟨fun c2 => absurd ⟨c1, c2⟩ c, fun _ => p_md_refuses (by omega) (both_refuse h (by omega))⟩
  refine w_ce_day (b_ce_day_0 (p_ce_hasRule wa r1 (zt (fun c1 => p_ce_isDay hk.w hw.w (zt (fun c2 => ?_) (fun c2 => rf (fun z => c2 z.1.2)))) (fun c1 => rf (fun z => c1 z.1.1)))))
  rw [s5.1, w13]
  refine ⟨fun c3 => ?_, fun c3 => rf (fun z => z.2 (by omega))⟩
  unfold T_ce_day_35
  rw [wa]
  have hRR := r3 a c1.1 c1.2
  refine ⟨by omega, p_sd_runDay (o := 2) (o1 := 28 + a.toNat) (M := MM s) (R := s (28 + a.toNat)) rfl (cls_ru (by omega)) (by omega) (by omega) h.1.1 (fun _ _ => rfl) hRR c2.1 c2.2 (by omega) (fun t U' hF hE hM hC e11 eU hx => ?_)⟩
  intro u x
  obtain ⟨y1, y2, y3⟩ := updM_f x
  have t34 : t 34 = s 34 := hF 34 (by omega)
  have t0 : t 0 = s 0 := hF 0 (by omega)
  have u34 : u 34 = s 34 := (y1 34 (by omega)).trans t34
  refine w_md_day (b_md_day_0 (p_md_isDay ha hk hw (by rw [u34, r2]; exact r1) ?_))
  rw [u34, r2]
  refine zt (fun _ => ?_) (fun z => absurd ⟨c1, c2⟩ z)
  rw [w13]
  unfold T_md_day_29
  rw [u34]
  have hM0 : MM u = MM s := by funext x; show u 34 _ = s 34 _; rw [u34]
  have hRS0 : RS (s 3) (s 4) (s 2) (Mo u (fun _ => 0)) (s 34 2 13) := by
    rw [Mo_0, hM0]
    obtain ⟨q1, q2, ⟨z1, z2, z3, z4, z5, z6⟩, q4⟩ := h.1
    exact ⟨q1, q2, ⟨z1, z2, z3, z4, ⟨z5.1, z5.2.1, Int.le_refl _⟩, z6⟩, q4⟩
  refine br_t (by omega) (p_md_goesDay (by omega) c2.1 c2.2 hRS0 (R := s (28 + a.toNat)) (by rw [u34]; exact hRR) hC (fun m U2 fm u11 uU hm e2 => ?_))
  intro v xv
  obtain ⟨z1, z2, z3⟩ := updM_f xv
  rw [Mo_0] at hm
  have tU : ∀ j, 2 ≤ j → j ≤ 12 → t 2 j 0 = U2 j 0 := fun j j0 j1 => by
    by_cases q : j = 11
    · subst q
      rw [e11, u11]
    · rw [eU j j0 j1 q, uU j j0 j1 q]
  have m1 : m 34 1 = s 34 1 := by rw [fm.1.2 1 (by omega), u34]
  obtain ⟨hm1, hm2, ⟨n1, n2, n3, n4, n5, n6⟩, hm4⟩ := hm
  have n1 : U2 7 0 = m 34 2 8 := n1
  have q7 : u 2 7 0 = m 34 2 8 := by rw [y1 2 (by omega), tU 7 (by omega) (by omega)]; exact n1
  have q10 : t 2 10 0 = U' 10 0 := by rw [eU 10 (by omega) (by omega) (by omega)]
  have s1 : s 2 7 0 = s 34 2 8 := s1
  refine ⟨?_, ?_⟩
  · rw [z2 2 (by omega), q7, s1]
  · have vo : ∀ o, ¬ o = 34 → v o = u o := fun o ho => by rw [z1 o ho, fm.1.1 o ho]
    refine Inv_run h (fun j hj => by rw [vo 0 (by omega), y2 j (by omega), t0]) ?_ (fun o ho => by rw [vo o (by omega), y1 o (by omega), hF o (by omega)]) (fun o j o0 o1 hj => ?_) (fun j hk hj => by unfold kpJ at hk; rw [z2 j (by omega), fm.1.2 j (by omega), u34]) ?_
    · intro i i0 i1
      rw [vo 0 (by omega), y3, z3, m1, t0, q10]
      by_cases q : i = 1
      · subst q
        rw [uA_s, uA_s, h.2.2.1 1 (by omega) (by omega)]
      · rw [uA_n _ q, uA_n _ q]
        exact h.2.2.1 i i0 i1
    · rw [vo o (by omega), y1 o (by omega)]
      by_cases e : o = 28 + a.toNat
      · subst e
        exact hE j hj
      · rw [hF o (by omega)]
    · unfold RSm
      rw [vo 3 (by omega), vo 4 (by omega), vo 2 (by omega), y1 3 (by omega), y1 4 (by omega), y1 2 (by omega), hF 4 (by omega)]
      refine RS_M (fun x hx => z2 _ (by unfold mfld; split <;> omega)) ⟨hm1, hm2, ⟨?_, ?_, ?_, ?_, ?_, ?_⟩, ?_⟩
      · rw [tU 7 (by omega) (by omega)]; exact n1
      · rw [tU 8 (by omega) (by omega)]; exact n2
      · rw [tU 9 (by omega) (by omega)]; exact n3
      · rw [tU 10 (by omega) (by omega)]; exact n4
      · rw [tU 11 (by omega) (by omega)]
        exact ⟨n5.1, n5.2.1, show MM m 0 13 ≤ 9999 by have := n5.2.2; omega⟩
      · rw [tU 12 (by omega) (by omega)]; exact n6
      · exact Edn_c hm4 rfl (fun _ _ _ => rfl) (fun j j0 j1 => by rw [eU j (by omega) (by omega) (by omega), uU j (by omega) (by omega) (by omega)])
