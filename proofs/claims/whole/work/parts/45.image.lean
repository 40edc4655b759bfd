/-! ===== image and back ===== -/
theorem cls_im {k : Nat} (hk : k < 4) : cls (8 + 3 * k) = 7 ∧ cls (8 + 3 * k + 1) = 5 ∧ cls (8 + 3 * k + 2) = 9 := by
  rcases (show k = 0 ∨ k = 1 ∨ k = 2 ∨ k = 3 by omega) with q | q | q | q <;> subst q <;> exact ⟨rfl, rfl, rfl⟩
theorem Inv_day {s : Mem} (h : Inv s) : s 2 11 0 = s 34 2 13 := h.1.2.2.1.2.2.2.2.1.1
theorem g_image {s : Mem} (h : Inv s) {a : Int} (ha : I32 a) : Ag s (W_ce_image a) (W_md_image a) := by
  have wa := ha.w
  refine w_ce_image (b_ce_image_0 (p_within wa (b' := 0) (by decide) (c' := 3) (by decide) (zf (fun c => ?_) (fun c => p_ce_refuse (by omega) ?_))))
  · unfold T_ce_image_15
    rw [wa]
    obtain ⟨i1, i2, i3⟩ := cls_im (k := a.toNat) (by omega)
    refine ⟨by omega, p_sd_copyFrom i1 rfl i2 rfl i3 rfl (by omega) (by omega) (fun t1 F1 _ e1 e2 e3 => ⟨by omega, fun u x => ?_⟩)⟩
    obtain ⟨y1, y2, y3⟩ := updM_f x
    have uo : ∀ o, ¬ (o = 0 ∨ o = 8 + 3 * a.toNat ∨ o = 8 + 3 * a.toNat + 1 ∨ o = 8 + 3 * a.toNat + 2) → u o = s o := fun o ho => by rw [y1 o (by omega), F1 o (by omega)]
    have u0 : ∀ j, ¬ j = 4 → u 0 j = s 0 j := fun j hj => by rw [y2 j hj, F1 0 (by omega)]
    have u04 : u 0 4 = uA (s 0 4) a 1 := by rw [y3, F1 0 (by omega)]
    have u34 : u 34 = s 34 := uo 34 (by omega)
    refine w_md_image (b_md_image_0 (p_in ha.wl (b' := 0) (by decide) (c' := 3) (by decide) (zf (fun _ => ?_) (fun z => absurd c z))))
    unfold T_md_image_18
    rw [wa]
    refine ⟨by omega, fun w x2 => ?_⟩
    obtain ⟨z1, z2, z3⟩ := updM_f x2
    rw [u34] at z3
    have wj : ∀ j, ¬ j = 68 → w 34 j = s 34 j := fun j hj => by rw [z2 j hj, u34]
    refine p_md_carriesOut (by omega) (fun v Fv f1 f2 => ⟨?_, ?_⟩)
    · rw [Fv.2 2 (by omega), wj 2 (by omega), uo 2 (by omega)]
      exact congrArg wr (Inv_day h)
    · have vo : ∀ o, ¬ o = 34 → v o = u o := fun o ho => by rw [Fv.1 o ho, z1 o ho]
      have vj : ∀ j, ¬ (67 ≤ j ∧ j ≤ 70) → v 34 j = s 34 j := fun j hj => by rw [Fv.2 j (by omega), wj j (by omega)]
      have v68 : v 34 68 = uA (s 34 68) a 1 := by rw [Fv.2 68 (by omega), z3]
      have eM : ∀ b, b < 20 → MM w b = MM s b := fun b hb => wj _ (by unfold mfld; split <;> omega)
      have eI : ∀ k, MI w k = MI s k := fun k => by
        funext b i
        show w 34 67 _ = s 34 67 _
        rw [wj 67 (by omega)]
      obtain ⟨q1, q2, q3, q4, q5, q6⟩ := h
      refine ⟨?_, ?_, ?_, fun k k0 k1 => ?_, ?_, by rw [vj 41 (by omega)]; exact q6⟩
      · unfold RSm at q1 ⊢
        rw [vo 3 (by omega), vo 4 (by omega), vo 2 (by omega), uo 3 (by omega), uo 4 (by omega), uo 2 (by omega)]
        exact RS_M (fun b hb => vj _ (by unfold mfld; split <;> omega)) q1
      · unfold Tap at q2 ⊢
        rw [vo 1 (by omega), uo 1 (by omega), vj 32 (by omega), vj 43 (by omega)]
        exact q2
      · unfold Sts at q3 ⊢
        rw [vo 0 (by omega), u0 7 (by omega), vj 1 (by omega)]
        exact q3
      · obtain ⟨p1, p2⟩ := q4 k k0 k1
        rw [vo 0 (by omega), u04, v68]
        by_cases q : k = a
        · subst q
          rw [uA_s, uA_s]
          refine ⟨⟨rfl, Or.inr rfl⟩, fun _ => ?_⟩
          rw [vo (8 + 3 * k.toNat + 1) (by omega), vo (8 + 3 * k.toNat + 2) (by omega), vo (8 + 3 * k.toNat) (by omega), y1 (8 + 3 * k.toNat + 1) (by omega), y1 (8 + 3 * k.toNat + 2) (by omega), y1 (8 + 3 * k.toNat) (by omega)]
          refine RS_x e2 e3 e1 (fun b i i0 i1 => ?_) q1
          rw [f1 b i i0 i1]
          have hb : b < 20 := by
            unfold mdI mdN at i1
            (repeat' split at i1) <;> omega
          rw [eM b hb]
        · rw [uA_n _ q, uA_n _ q, vo (8 + 3 * k.toNat + 1) (by omega), vo (8 + 3 * k.toNat + 2) (by omega), vo (8 + 3 * k.toNat) (by omega), uo (8 + 3 * k.toNat + 1) (by omega), uo (8 + 3 * k.toNat + 2) (by omega), uo (8 + 3 * k.toNat) (by omega)]
          refine ⟨p1, fun z => RS_x EqN.rf EqN.rf EqN.rf ?_ (p2 z)⟩
          have := f2 k k0 k1 q
          rw [eI k] at this
          exact this
      · obtain ⟨r1, r2, r3⟩ := q5
        have v06 : v 0 6 = s 0 6 := by rw [vo 0 (by omega), u0 6 (by omega)]
        refine ⟨by rw [v06]; exact r1, by rw [v06, vj 36 (by omega)]; exact r2, fun r r0 rr => ?_⟩
        rw [v06] at rr
        exact RR_R (fun j _ => by rw [vo _ (by omega), uo _ (by omega)]) (fun j j0 j1 => vj j (by omega)) (r3 r r0 rr)
  · exact w_md_image (b_md_image_0 (p_in ha.wl (b' := 0) (by decide) (c' := 3) (by decide) (zf (fun z => absurd z c) (fun _ => p_md_refuses (by omega) (both_refuse h (by omega))))))
theorem g_back {s : Mem} (h : Inv s) {a : Int} (ha : I32 a) : Ag s (W_ce_back a) (W_md_back a) := by
  have wa := ha.w
  have eu : updM s 0 7 0 (s 0 7 0 + 1) 34 = s 34 := updM_o _ (by omega)
  refine w_ce_back (b_ce_back_0 (p_within wa (b' := 0) (by decide) (c' := 3) (by decide) (zt (fun c => ?_) (fun c => p_ce_refuse (by omega) ?_))))
  · obtain ⟨⟨p1, p3⟩, p2⟩ := h.2.2.2.1 a c.1 (by omega)
    rw [wa]
    have w04 : wr (s 0 4 a) = s 0 4 a := wr_id (by omega) (by omega)
    rw [w04]
    refine ⟨by omega, fun c2 => ?_, fun c2 => p_ce_refuse (by omega) ?_⟩
    · unfold T_ce_back_24
      rw [wa]
      obtain ⟨i1, i2, i3⟩ := cls_im (k := a.toNat) (by omega)
      refine ⟨by omega, p_sd_copyFrom rfl i1 rfl i2 rfl i3 (by omega) (by omega) (fun u F1 _ e1 e2 e3 => ?_)⟩
      have u34 : u 34 = s 34 := F1 34 (by omega)
      have hRS := p2 (by omega)
      refine w_md_back (b_md_back_0 (p_in ha.wl (b' := 0) (by decide) (c' := 3) (by decide) (zt (fun _ => ?_) (fun z => absurd c z))))
      rw [wa, u34, ← p1, w04]
      refine ⟨by omega, br_t c2 ?_⟩
      refine p_md_carriesIn (by omega) (fun v Fo Fj f1 => ?_)
      have eI : MI u a = MI s a := by
        funext b i
        show u 34 67 _ = s 34 67 _
        rw [u34]
      rw [eI] at f1
      have hR : RSm v := by
        unfold RSm
        rw [Fo 3 (by omega), Fo 4 (by omega), Fo 2 (by omega)]
        exact RS_x e2 e3 e1 f1 hRS
      refine ⟨?_, Inv_main h (fun o ho => by rw [Fo o (by omega), F1 o (by omega)]) (fun j hj q => by rw [Fj j hj q, u34]) hR⟩
      have hd : v 2 11 0 = v 34 2 13 := hR.2.2.1.2.2.2.2.1.1
      rw [← hd, Fo 2 (by omega)]
    · refine w_md_back (b_md_back_0 (p_in ha.wl (b' := 0) (by decide) (c' := 3) (by decide) (zt (fun _ => ?_) (fun z => absurd c z))))
      rw [wa, eu, ← p1, w04]
      exact ⟨by omega, br_f c2 (p_md_refuses (by omega) (both_refuse h (by omega)))⟩
  · exact w_md_back (b_md_back_0 (p_in ha.wl (b' := 0) (by decide) (c' := 3) (by decide) (zt (fun z => absurd z c) (fun _ => p_md_refuses (by omega) (both_refuse h (by omega))))))
