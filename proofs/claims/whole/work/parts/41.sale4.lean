/-! ===== sale agrees ===== -/
theorem Inv_lev {s : Mem} (h : Inv s) : (s 4 5 0 = s 34 2 16 ∧ 0 ≤ s 34 2 16 ∧ s 34 2 16 ≤ 5) ∧ ∀ k, 0 ≤ k → k < s 34 2 16 → (s 4 3 k = s 34 28 k ∧ 1 ≤ s 34 28 k ∧ s 34 28 k ≤ 99) ∧ (s 4 4 k = s 34 29 k ∧ 0 ≤ s 34 29 k ∧ s 34 29 k ≤ 99) := h.1.2.1.2.2.1
theorem cB_eq {pr mo pr' mo' : Int → Int} {lo l x : Int} {F F' : Int → Int → Int} (h1 : pr l = pr' l) (h2 : mo l = mo' l) (hF : ∀ y, F l y = F' l y) : cB pr mo lo F l x = cB pr' mo' lo F' l x := by
  unfold cB rstS
  rw [h1, h2, hF]
theorem bw_eq {pr mo pr' mo' : Int → Int} {lo L x : Int} {F F' : Int → Int → Int} (he : ∀ l, 0 ≤ l → l < L → pr l = pr' l ∧ mo l = mo' l ∧ ∀ y, F l y = F' l y) : ∀ n : Nat, (n : Int) ≤ L → bw pr mo lo L F x n = bw pr' mo' lo L F' x n
  | 0, _ => rfl
  | n + 1, hn => by
    have ih := bw_eq (lo := lo) (x := x) he n (by omega)
    obtain ⟨h1, h2, h3⟩ := he (L - 1 - (n : Int)) (by omega) (by omega)
    show max (bw pr mo lo L F x n) (cB pr mo lo F (L - 1 - (n : Int)) x) = max (bw pr' mo' lo L F' x n) (cB pr' mo' lo F' (L - 1 - (n : Int)) x)
    rw [ih, cB_eq h1 h2 h3]
theorem FW_eq {pr mo pr' mo' : Int → Int} {lo L : Int} (he : ∀ l, 0 ≤ l → l < L → pr l = pr' l ∧ mo l = mo' l) : ∀ (w : Nat) (l y : Int), 0 ≤ l → l < L → FW pr mo lo L w l y = FW pr' mo' lo L w l y
  | 0, _, _, _, _ => rfl
  | w + 1, l, y, h0, h1 => bw_eq (fun i i0 i1 => ⟨(he i i0 i1).1, (he i i0 i1).2, fun z => FW_eq he w i z i0 i1⟩) (L - l).toNat (by omega)
theorem msx_eq {pr mo pr' mo' : Int → Int} {lo L E f0 : Int} {F F' : Int → Int → Int} (he : ∀ l, 0 ≤ l → l < L → pr l = pr' l ∧ mo l = mo' l ∧ ∀ y, F l y = F' l y) : ∀ n : Nat, (n : Int) ≤ L → msx pr mo lo F E f0 n = msx pr' mo' lo F' E f0 n
  | 0, _ => rfl
  | n + 1, hn => by
    have ih := msx_eq (lo := lo) (E := E) (f0 := f0) he n (by omega)
    obtain ⟨h1, h2, h3⟩ := he (n : Int) (by omega) (by omega)
    have ec := cB_eq (lo := lo) (x := E) h1 h2 h3
    show (if (msx pr mo lo F E f0 n).1 < cB pr mo lo F (n : Int) E then (cB pr mo lo F (n : Int) E, (n : Int)) else msx pr mo lo F E f0 n) = (if (msx pr' mo' lo F' E f0 n).1 < cB pr' mo' lo F' (n : Int) E then (cB pr' mo' lo F' (n : Int) E, (n : Int)) else msx pr' mo' lo F' E f0 n)
    rw [ih, ec]
theorem g_sale {s : Mem} (h : Inv s) {a b c d : Int} (ha : I32 a) (hb : I32 b) (hc : I32 c) (hd : I32 d) : Ag s (W_ce_sale a b c d) (W_md_sale a b c d) := by
  have wa := ha.w
  have wb := hb.w
  have wc := hc.w
  have wd := hd.w
  obtain ⟨⟨k1, k2, k3⟩, k4⟩ := Inv_lev h
  have wL : wr (s 34 2 16) = s 34 2 16 := wr_id (by omega) (by omega)
  have no : ¬ (¬ s 34 2 16 = 0 ∧ (0 ≤ a ∧ a ≤ 480) ∧ (1 ≤ b ∧ b ≤ 60) ∧ (0 ≤ c ∧ c ≤ 50) ∧ (0 ≤ d ∧ d ≤ 1)) → W_md_sale a b c d s (fun r2 v => wr (-1) = wr r2 ∧ Inv v) := fun q => by
    refine w_md_sale (b_md_sale_0 ?_)
    unfold T_md_sale_0
    rw [wL]
    exact ⟨fun _ => ⟨rfl, h⟩, fun c0 => p_in ha.wl (b' := 0) (by decide) (c' := 480) (by decide) (zt (fun c1 => p_in hb.wl (b' := 1) (by decide) (c' := 60) (by decide) (zt (fun c2 => p_in hc.wl (b' := 0) (by decide) (c' := 50) (by decide) (zt (fun c3 => p_in hd.wl (b' := 0) (by decide) (c' := 1) (by decide) (zf (fun c4 => absurd ⟨c0, c1, c2, c3, c4⟩ q) (fun _ => ⟨rfl, h⟩))) (fun _ => ⟨rfl, h⟩))) (fun _ => ⟨rfl, h⟩))) (fun _ => ⟨rfl, h⟩))⟩
  refine w_ce_sale (b_ce_sale_0 (p_within wa (b' := 0) (by decide) (c' := 480) (by decide) (zt (fun c1 => p_within wb (b' := 1) (by decide) (c' := 60) (by decide) (zt (fun c2 => p_within wc (b' := 0) (by decide) (c' := 50) (by decide) (zt (fun c3 => p_within wd (b' := 0) (by decide) (c' := 1) (by decide) (zt (fun c4 => ?_) (fun c4 => br_t wr_0 (no (fun z => c4 z.2.2.2.2))))) (fun c3 => br_t wr_0 (no (fun z => c3 z.2.2.2.1))))) (fun c2 => br_t wr_0 (no (fun z => c2 z.2.2.1))))) (fun c1 => br_t wr_0 (no (fun z => c1 z.2.1))))))
  unfold T_ce_sale_46
  rw [wr_1, k1, wL]
  refine ⟨fun z => absurd z (by decide), fun _ => ⟨fun c0 => ?_, fun c0 => no (fun z => z.1 (Decidable.byContradiction c0))⟩⟩
  have lf1 : LF (s 4 3) (s 4 4) (s 34 2 16) := ⟨by omega, fun l l0 l1 => by have := k4 l l0 l1; omega⟩
  have lf2 : LF (s 34 28) (s 34 29) (s 34 2 16) := ⟨by omega, fun l l0 l1 => by have := k4 l l0 l1; omega⟩
  have le : ∀ l, 0 ≤ l → l < s 34 2 16 → s 4 3 l = s 34 28 l ∧ s 4 4 l = s 34 29 l := fun l l0 l1 => by have := k4 l l0 l1; omega
  refine p_sp_work lf1 k1 c1 c2 c3 (fun u hFu u2 u3 => ?_)
  have eu : u 34 = s 34 := hFu 34 (by omega)
  have hu : Inv u := Inv_C h (fun o ho => hFu o (by omega))
  have mdc : ∀ {Q : Int → Mem → Prop}, (∀ v, Inv v → Q (if d = 0 then (msx (s 34 28) (s 34 29) c (FW (s 34 28) (s 34 29) c (s 34 2 16) (b - 1).toNat) a 0 (s 34 2 16).toNat).1 else (msx (s 34 28) (s 34 29) c (FW (s 34 28) (s 34 29) c (s 34 2 16) (b - 1).toNat) a 0 (s 34 2 16).toNat).2) v) → W_md_sale a b c d u Q := fun t => by
    refine w_md_sale (b_md_sale_0 ?_)
    unfold T_md_sale_0
    rw [eu, wL]
    refine br_f c0 (p_in ha.wl (b' := 0) (by decide) (c' := 480) (by decide) (zt (fun _ => p_in hb.wl (b' := 1) (by decide) (c' := 60) (by decide) (zt (fun _ => p_in hc.wl (b' := 0) (by decide) (c' := 50) (by decide) (zt (fun _ => p_in hd.wl (b' := 0) (by decide) (c' := 1) (by decide) (zf (fun _ => ?_) (fun z => absurd c4 z))) (fun z => absurd c3 z))) (fun z => absurd c2 z))) (fun z => absurd c1 z)))
    refine p_md_sale (L := s 34 2 16) (by rw [eu]; exact lf2) (by rw [eu]) c1 c2 c3 wd (fun v hFv => ?_)
    rw [eu]
    exact t v (Inv_Mo hu (hFv.mono (fun j hj => by unfold kpJ; omega)))
  have key : msx (s 4 3) (s 4 4) c (FW (s 4 3) (s 4 4) c (s 34 2 16) (b - 1).toNat) a (-1) (s 34 2 16).toNat = msx (s 34 28) (s 34 29) c (FW (s 34 28) (s 34 29) c (s 34 2 16) (b - 1).toNat) a 0 (s 34 2 16).toNat := by
    have c00 := cB_bL (l := 0) lf2 (FW_bL lf2 c3 (b - 1).toNat) (by omega) c1.1 c3
    obtain ⟨n, hn⟩ : ∃ n : Nat, (s 34 2 16).toNat = n + 1 := ⟨(s 34 2 16).toNat - 1, by omega⟩
    rw [msx_eq (L := s 34 2 16) (fun l l0 l1 => ⟨(le l l0 l1).1, (le l l0 l1).2, fun y => FW_eq le (b - 1).toNat l y l0 l1⟩) (s 34 2 16).toNat (by omega), hn]
    exact msx_f c00.1 n
  rw [wd]
  refine ⟨fun c5 => ?_, fun c5 => ?_⟩
  · refine mdc (fun v hv => ⟨?_, hv⟩)
    rw [if_neg c5, u3, key]
  · refine mdc (fun v hv => ⟨?_, hv⟩)
    rw [if_pos (by omega), u2, key]
