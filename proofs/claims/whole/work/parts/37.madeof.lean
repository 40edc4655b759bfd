/-! ===== madeOf and line ===== -/
theorem Inv_frm {s : Mem} (h : Inv s) : FF (s 34 9) (s 34 10) (s 34 11) (s 34 2 5) ∧ FF (s 3 11) (s 3 12) (s 3 13) (s 3 14 0) ∧ s 3 14 0 = s 34 2 5 ∧ ∀ f, 0 ≤ f → f < s 34 2 5 → s 3 11 f = s 34 9 f ∧ s 3 12 f = s 34 10 f ∧ s 3 13 f = s 34 11 f := by
  have q : (s 3 14 0 = s 34 2 5 ∧ 0 ≤ s 34 2 5 ∧ s 34 2 5 ≤ 8) ∧ ∀ f, 0 ≤ f → f < s 34 2 5 → (s 3 11 f = s 34 9 f ∧ 1 ≤ s 34 9 f ∧ s 34 9 f ≤ 80) ∧ (s 3 12 f = s 34 10 f ∧ 1 ≤ s 34 10 f ∧ s 34 10 f ≤ 99) ∧ (s 3 13 f = s 34 11 f ∧ 0 ≤ s 34 11 f ∧ s 34 11 f ≤ 999) := h.1.1.2.2.2
  obtain ⟨⟨q1, q2, q3⟩, q4⟩ := q
  refine ⟨⟨by omega, fun f f0 f1 => ?_⟩, ⟨by omega, fun f f0 f1 => ?_⟩, q1, fun f f0 f1 => ?_⟩
  · have := q4 f f0 f1
    omega
  · have := q4 f f0 (by omega)
    omega
  · have := q4 f f0 f1
    omega
theorem fnd_congr {P P' : Int → Bool} : ∀ {n : Nat} {a : Int}, (∀ i, a ≤ i → i < a + n → P i = P' i) → fnd P n a = fnd P' n a
  | 0, _, _ => rfl
  | n + 1, a, h => by
    have h1 := h a (by omega) (by omega)
    have ih := fnd_congr (n := n) (a := a + 1) (P := P) (P' := P') (fun i i0 i1 => h i (by omega) (by omega))
    show (if P a then a else fnd P n (a + 1)) = (if P' a then a else fnd P' n (a + 1))
    rw [h1, ih]
/-- FORM f can be taken first -/
def fsP (fl fw fv : Int → Int) (wd len : Int) (T : Int → Int) (f : Int) : Bool := decide (fw f ≤ wd ∧ fl f ≤ len ∧ fv f + T (len - fl f) = T len)
theorem fsP_t {fl fw fv : Int → Int} {wd len : Int} {T : Int → Int} {f : Int} : fsP fl fw fv wd len T f = true ↔ (fw f ≤ wd ∧ fl f ≤ len ∧ fv f + T (len - fl f) = T len) := decide_eq_true_iff
theorem p_fm_firstOf {o : Nat} {len wd : Int} {s : Mem} {Q : Int → Mem → Prop} (ho : cls o = 5) (hF : FF (s o 11) (s o 12) (s o 13) (s o 14 0)) (hl : 1 ≤ len ∧ len ≤ 80) (wwd : wr wd = wd) (hT : wTb (s o 11) (s o 12) (s o 13) (s o 14 0) wd (s 24 0) 81) (h : Q (fnd (fsP (s o 11) (s o 12) (s o 13) wd len (s 24 0)) (s o 14 0).toNat 0) s) : W_fm_firstOf o len wd s Q := by
  obtain ⟨f1, f2⟩ := id hF
  refine w_fm_firstOf (b_fm_firstOf_0 ho ?_)
  have wnf : wr (s o 14 0) = s o 14 0 := wr_id (by omega) (by omega)
  have loop : ∀ (n : Nat) (f : Int), f + n = s o 14 0 → 0 ≤ f → Q (fnd (fsP (s o 11) (s o 12) (s o 13) wd len (s 24 0)) n f) s → K_fm_firstOf_3 Q o len wd f s := by
    intro n
    induction n with
    | zero =>
      intro f hf f0 hq
      refine b_fm_firstOf_3 ho ?_
      unfold T_fm_firstOf_3
      rw [wnf, wr_id (x := f) (by omega) (by omega)]
      exact br_t (by omega) hq
    | succ n ih =>
      intro f hf f0 hq
      obtain ⟨v1, v2, v3⟩ := f2 f f0 (by omega)
      have hq : Q (if fsP (s o 11) (s o 12) (s o 13) wd len (s 24 0) f then f else fnd (fsP (s o 11) (s o 12) (s o 13) wd len (s 24 0)) n (f + 1)) s := hq
      have no : ¬ (s o 12 f ≤ wd ∧ s o 11 f ≤ len ∧ s o 13 f + s 24 0 (len - s o 11 f) = s 24 0 len) → K_fm_firstOf_3 Q o len wd (f + 1) s := fun z => by
        rw [if_neg (fun q => z (fsP_t.mp q))] at hq
        exact ih (f + 1) (by omega) (by omega) hq
      refine b_fm_firstOf_3 ho ?_
      unfold T_fm_firstOf_3 T_fm_firstOf_43
      rw [wnf, wr_id (x := f) (by omega) (by omega)]
      refine br_f (by omega) (p_fm_fits ho (by omega) (by omega) (by omega) (by omega) wwd (zt (fun c => ?_) (fun c => no (fun z => c ⟨z.1, z.2.1⟩))))
      refine w_fm_worthWith (b_fm_worthWith_0 ho ?_)
      unfold T_fm_worthWith_0
      rw [wr_id (x := f) (by omega) (by omega), wr_id (x := len - s o 11 f) (by omega) (by omega)]
      have b2 := hT (len - s o 11 f) (by omega) (by omega)
      have b3 := hT len (by omega) (by omega)
      refine ⟨by omega, by omega, by omega, ?_⟩
      show (0 ≤ wr len ∧ wr len < 81) ∧ (¬ wr (s o 13 f + s 24 0 (len - s o 11 f)) = wr (s 24 0 (wr len)) → K_fm_firstOf_3 Q o len wd (f + 1) s) ∧ (¬ ¬ wr (s o 13 f + s 24 0 (len - s o 11 f)) = wr (s 24 0 (wr len)) → Q f s)
      rw [wr_id (x := len) (by omega) (by omega), wr_id (x := s o 13 f + s 24 0 (len - s o 11 f)) (by omega) (by omega), wr_id (x := s 24 0 len) (by omega) (by omega)]
      refine ⟨by omega, fun c2 => no (fun z => c2 z.2.2), fun c2 => ?_⟩
      rw [if_pos (fsP_t.mpr ⟨c.1, c.2, Decidable.byContradiction c2⟩)] at hq
      exact hq
  exact loop _ 0 (by omega) (by omega) h
theorem p_md_firstOf {len wd : Int} {s : Mem} {Q : Int → Mem → Prop} (hF : FF (s 34 9) (s 34 10) (s 34 11) (s 34 2 5)) (hl : 1 ≤ len ∧ len ≤ 80) (wwd : wr wd = wd) (hT : wTb (s 34 9) (s 34 10) (s 34 11) (s 34 2 5) wd (s 34 63) 81) (h : Q (fnd (fsP (s 34 9) (s 34 10) (s 34 11) wd len (s 34 63)) (s 34 2 5).toNat 0) s) : T_md_madeOf_52 Q len wd s := by
  obtain ⟨f1, f2⟩ := id hF
  have wnf : wr (s 34 2 5) = s 34 2 5 := wr_id (by omega) (by omega)
  have loop : ∀ (n : Nat) (f : Int), f + n = s 34 2 5 → 0 ≤ f → Q (fnd (fsP (s 34 9) (s 34 10) (s 34 11) wd len (s 34 63)) n f) s → K_md_madeOf_55 Q len wd f s := by
    intro n
    induction n with
    | zero =>
      intro f hf f0 hq
      refine b_md_madeOf_55 ?_
      unfold T_md_madeOf_55
      rw [wnf, wr_id (x := f) (by omega) (by omega)]
      exact br_t (by omega) hq
    | succ n ih =>
      intro f hf f0 hq
      obtain ⟨v1, v2, v3⟩ := f2 f f0 (by omega)
      have hq : Q (if fsP (s 34 9) (s 34 10) (s 34 11) wd len (s 34 63) f then f else fnd (fsP (s 34 9) (s 34 10) (s 34 11) wd len (s 34 63)) n (f + 1)) s := hq
      have no : ¬ (s 34 10 f ≤ wd ∧ s 34 9 f ≤ len ∧ s 34 11 f + s 34 63 (len - s 34 9 f) = s 34 63 len) → K_md_madeOf_55 Q len wd (f + 1) s := fun z => by
        rw [if_neg (fun q => z (fsP_t.mp q))] at hq
        exact ih (f + 1) (by omega) (by omega) hq
      refine b_md_madeOf_55 ?_
      unfold T_md_madeOf_55 T_md_madeOf_122
      rw [wnf, wwd, wr_id (x := f) (by omega) (by omega), wr_id (x := len) (by omega) (by omega), wr_id (x := s 34 10 f) (by omega) (by omega), wr_id (x := s 34 9 f) (by omega) (by omega)]
      refine br_f (by omega) ⟨by omega, fun c => no (fun z => by omega), fun c => ⟨by omega, fun c1 => no (fun z => by omega), fun c1 => ?_⟩⟩
      rw [wr_id (x := len - s 34 9 f) (by omega) (by omega)]
      have b2 := hT (len - s 34 9 f) (by omega) (by omega)
      have b3 := hT len (by omega) (by omega)
      rw [wr_id (x := s 34 11 f + s 34 63 (len - s 34 9 f)) (by omega) (by omega), wr_id (x := s 34 63 len) (by omega) (by omega)]
      refine ⟨by omega, by omega, by omega, by omega, fun c2 => no (fun z => c2 z.2.2), fun c2 => ?_⟩
      rw [if_pos (fsP_t.mpr ⟨by omega, by omega, Decidable.byContradiction c2⟩)] at hq
      exact hq
  exact loop _ 0 (by omega) (by omega) h
theorem frm_u {s u : Mem} (h : Inv s) (eu : u 34 = s 34) {wd : Int} {T T' : Int → Int} (h1 : wTb (s 3 11) (s 3 12) (s 3 13) (s 3 14 0) wd T 81) (h2 : wTb (u 34 9) (u 34 10) (u 34 11) (u 34 2 5) wd T' 81) : ∀ n, 0 ≤ n → n < 81 → T n = T' n := by
  obtain ⟨f1, f2, f3, f4⟩ := Inv_frm h
  rw [eu, ← f3] at h2
  exact wTb_u f2 (fun f f0 f1 => f4 f f0 (by omega)) h1 h2
theorem g_madeOf {s : Mem} (h : Inv s) {a b c : Int} (ha : I32 a) (hb : I32 b) (hc : I32 c) : Ag s (W_ce_madeOf a b c) (W_md_madeOf a b c) := by
  have wa := ha.w
  have wb := hb.w
  have wc := hc.w
  obtain ⟨f1, f2, f3, f4⟩ := Inv_frm h
  have no : ¬ ((1 ≤ a ∧ a ≤ 80) ∧ (1 ≤ b ∧ b ≤ 99) ∧ (0 ≤ c ∧ c ≤ 1)) → W_md_madeOf a b c s (fun r2 v => wr (-1) = wr r2 ∧ Inv v) := fun q => w_md_madeOf (b_md_madeOf_0 (p_in ha.wl (b' := 1) (by decide) (c' := 80) (by decide) (zt (fun c1 => p_in hb.wl (b' := 1) (by decide) (c' := 99) (by decide) (zt (fun c2 => p_in hc.wl (b' := 0) (by decide) (c' := 1) (by decide) (zf (fun c3 => absurd ⟨c1, c2, c3⟩ q) (fun _ => ⟨rfl, h⟩))) (fun _ => ⟨rfl, h⟩))) (fun _ => ⟨rfl, h⟩))))
  refine w_ce_madeOf (b_ce_madeOf_0 (p_within wa (b' := 1) (by decide) (c' := 80) (by decide) (zt (fun c1 => p_within wb (b' := 1) (by decide) (c' := 99) (by decide) (zt (fun c2 => ?_) (fun c2 => br_t wr_0 (no (fun z => c2 z.2.1))))) (fun c1 => br_t wr_0 (no (fun z => c1 z.1))))))
  unfold T_ce_madeOf_25
  rw [wr_1]
  refine ⟨fun z => absurd z (by decide), fun _ => p_within wc (b' := 0) (by decide) (c' := 1) (by decide) (zf (fun c3 => ?_) (fun c3 => no (fun z => c3 z.2.2)))⟩
  refine p_fm_lay rfl f2 wb (fun u hFu hTu => ?_)
  have e3 : u 3 = s 3 := hFu.1 3 (by omega)
  have eu : u 34 = s 34 := hFu.1 34 (by omega)
  have hu : Inv u := Inv_C h (fun o ho => hFu.1 o (by omega))
  have mdc : ∀ {Q : Int → Mem → Prop}, (∀ v, Inv v → (∀ j, ¬ j = 63 → v 34 j = s 34 j) → wTb (v 34 9) (v 34 10) (v 34 11) (v 34 2 5) b (v 34 63) 81 → (∀ n, 0 ≤ n → n < 81 → u 24 0 n = v 34 63 n) → (¬ c = 0 → T_md_madeOf_52 Q a b v) ∧ (¬ ¬ c = 0 → Q (v 34 63 a) v)) → W_md_madeOf a b c u Q := fun t => by
    refine w_md_madeOf (b_md_madeOf_0 (p_in ha.wl (b' := 1) (by decide) (c' := 80) (by decide) (zt (fun _ => p_in hb.wl (b' := 1) (by decide) (c' := 99) (by decide) (zt (fun _ => p_in hc.wl (b' := 0) (by decide) (c' := 1) (by decide) (zf (fun _ => ?_) (fun z => absurd c3 z))) (fun z => absurd c2 z))) (fun z => absurd c1 z))))
    refine p_md_fillsWorths (by rw [eu]; exact f1) wb (fun v hFv hTv => ?_)
    rw [wc, wa]
    have t := t v (Inv_Mo hu (hFv.mono (fun j hj => by unfold kpJ; omega))) (fun j hj => by rw [hFv.2 j hj, eu]) (by rw [hFv.2 9 (by omega), hFv.2 10 (by omega), hFv.2 11 (by omega), hFv.2 2 (by omega)]; exact hTv) (frm_u h eu hTu hTv)
    exact ⟨t.1, fun z => ⟨by omega, t.2 z⟩⟩
  rw [wc]
  refine ⟨fun c4 => ?_, fun c4 => ?_⟩
  · refine p_fm_firstOf rfl (by rw [e3]; exact f2) c1 wb (by rw [e3]; exact hTu) (mdc (fun v hv hj hTv hE => br_t c4 ?_))
    refine p_md_firstOf (by rw [hj 9 (by omega), hj 10 (by omega), hj 11 (by omega), hj 2 (by omega)]; exact f1) c1 wb hTv ⟨congrArg wr ?_, hv⟩
    rw [e3, f3, hj 9 (by omega), hj 10 (by omega), hj 11 (by omega), hj 2 (by omega)]
    refine fnd_congr (fun f g0 g1 => ?_)
    obtain ⟨x1, x2, x3⟩ := f4 f g0 (by omega)
    have := f1.2 f g0 (by omega)
    unfold fsP
    rw [x1, x2, x3, hE a (by omega) (by omega)]
    by_cases q : s 34 9 f ≤ a
    · rw [hE (a - s 34 9 f) (by omega) (by omega)]
    · rw [decide_eq_false (fun z => q z.2.1), decide_eq_false (fun z => q z.2.1)]
  · refine w_fm_worthOf (b_fm_worthOf_0 ?_)
    unfold T_fm_worthOf_0
    rw [wa]
    exact ⟨by omega, mdc (fun v hv hj hTv hE => br_f c4 ⟨by rw [hE a (by omega) (by omega)], hv⟩)⟩
/-- up as long as P -/
def lon (P : Int → Bool) : Nat → Int → Int
  | 0, a => a
  | n + 1, a => if P (a + 1) then lon P n (a + 1) else a
theorem lon_congr {P P' : Int → Bool} : ∀ {n : Nat} {a : Int}, (∀ i, a < i → i ≤ a + n → P i = P' i) → lon P n a = lon P' n a
  | 0, _, _ => rfl
  | n + 1, a, h => by
    have h1 := h (a + 1) (by omega) (by omega)
    have ih := lon_congr (n := n) (a := a + 1) (P := P) (P' := P') (fun i i0 i1 => h i (by omega) (by omega))
    show (if P (a + 1) then lon P n (a + 1) else a) = (if P' (a + 1) then lon P' n (a + 1) else a)
    rw [h1, ih]
theorem p_fm_longestWorth {m : Int} {s : Mem} {Q : Int → Mem → Prop} (wm : wr m = m) (hT : ∀ n, 0 ≤ n → n < 81 → 0 ≤ s 24 0 n ∧ s 24 0 n ≤ 100000) (h : Q (lon (fun n => decide (s 24 0 n ≤ m)) 80 0) s) : W_fm_longestWorth m s Q := by
  refine w_fm_longestWorth (b_fm_longestWorth_0 ?_)
  have loop : ∀ (n : Nat) (f : Int), f + n = 80 → 0 ≤ f → Q (lon (fun n => decide (s 24 0 n ≤ m)) n f) s → K_fm_longestWorth_2 Q m f s := by
    intro n
    induction n with
    | zero =>
      intro f hf f0 hq
      refine b_fm_longestWorth_2 ?_
      unfold T_fm_longestWorth_2
      rw [wr_id (x := f) (by omega) (by omega)]
      exact br_t (by omega) hq
    | succ n ih =>
      intro f hf f0 hq
      have hq : Q (if decide (s 24 0 (f + 1) ≤ m) = true then lon (fun n => decide (s 24 0 n ≤ m)) n (f + 1) else f) s := hq
      have v := hT (f + 1) (by omega) (by omega)
      refine b_fm_longestWorth_2 ?_
      unfold T_fm_longestWorth_2 T_fm_longestWorth_26
      rw [wm, wr_id (x := f) (by omega) (by omega), wr_id (x := f + 1) (by omega) (by omega), wr_id (x := s 24 0 (f + 1)) (by omega) (by omega)]
      refine br_f (by omega) ⟨by omega, fun c => ?_, fun c => ?_⟩
      · rw [if_neg (fun z => by have := of_decide_eq_true z; omega)] at hq
        exact hq
      · rw [if_pos (decide_eq_true (by omega))] at hq
        exact ih (f + 1) (by omega) (by omega) hq
  exact loop 80 0 (by omega) (by omega) h
theorem p_md_line {b c : Int} {s : Mem} {Q : Int → Mem → Prop} (wm : wr (b * c) = b * c) (hT : ∀ n, 0 ≤ n → n < 81 → 0 ≤ s 34 63 n ∧ s 34 63 n ≤ 100000) (h : Q (lon (fun n => decide (s 34 63 n * 100 ≤ b * c)) 80 0) s) : K_md_line_46 Q b c 0 s := by
  have loop : ∀ (n : Nat) (f : Int), f + n = 80 → 0 ≤ f → Q (lon (fun n => decide (s 34 63 n * 100 ≤ b * c)) n f) s → K_md_line_46 Q b c f s := by
    intro n
    induction n with
    | zero =>
      intro f hf f0 hq
      refine b_md_line_46 ?_
      unfold T_md_line_46
      rw [wr_id (x := f) (by omega) (by omega)]
      exact br_t (by omega) hq
    | succ n ih =>
      intro f hf f0 hq
      have hq : Q (if decide (s 34 63 (f + 1) * 100 ≤ b * c) = true then lon (fun n => decide (s 34 63 n * 100 ≤ b * c)) n (f + 1) else f) s := hq
      have v := hT (f + 1) (by omega) (by omega)
      refine b_md_line_46 ?_
      unfold T_md_line_46 T_md_line_77
      rw [wm, wr_id (x := f) (by omega) (by omega), wr_id (x := f + 1) (by omega) (by omega), wr_id (x := s 34 63 (f + 1) * 100) (by omega) (by omega)]
      refine br_f (by omega) ⟨by omega, fun c => ?_, fun c => ?_⟩
      · rw [if_neg (fun z => by have := of_decide_eq_true z; omega)] at hq
        exact hq
      · rw [if_pos (decide_eq_true (by omega))] at hq
        exact ih (f + 1) (by omega) (by omega) hq
  exact loop 80 0 (by omega) (by omega) h
theorem g_line {s : Mem} (h : Inv s) {a b c : Int} (ha : I32 a) (hb : I32 b) (hc : I32 c) : Ag s (W_ce_line a b c) (W_md_line a b c) := by
  have wa := ha.w
  have wb := hb.w
  have wc := hc.w
  obtain ⟨f1, f2, f3, f4⟩ := Inv_frm h
  have no : ¬ ((1 ≤ a ∧ a ≤ 99) ∧ (0 ≤ b ∧ b ≤ 9999) ∧ (0 ≤ c ∧ c ≤ 100)) → W_md_line a b c s (fun r2 v => wr (-1) = wr r2 ∧ Inv v) := fun q => w_md_line (b_md_line_0 (p_in ha.wl (b' := 1) (by decide) (c' := 99) (by decide) (zt (fun c1 => p_in hb.wl (b' := 0) (by decide) (c' := 9999) (by decide) (zt (fun c2 => p_in hc.wl (b' := 0) (by decide) (c' := 100) (by decide) (zf (fun c3 => absurd ⟨c1, c2, c3⟩ q) (fun _ => ⟨rfl, h⟩))) (fun _ => ⟨rfl, h⟩))) (fun _ => ⟨rfl, h⟩))))
  refine w_ce_line (b_ce_line_0 (p_within wa (b' := 1) (by decide) (c' := 99) (by decide) (zt (fun c1 => p_within wb (b' := 0) (by decide) (c' := 9999) (by decide) (zt (fun c2 => p_within wc (b' := 0) (by decide) (c' := 100) (by decide) (zf (fun c3 => ?_) (fun c3 => no (fun z => c3 z.2.2)))) (fun c2 => no (fun z => c2 z.2.1)))) (fun c1 => no (fun z => c1 z.1)))))
  have m1 : b * c ≤ 9999 * c := Int.mul_le_mul_of_nonneg_right c2.2 c3.1
  have m2 : 0 ≤ b * c := Int.mul_nonneg c2.1 c3.1
  have ed := idv_p (x := b * c) (y := 100) (by omega) (by omega)
  refine p_fm_lay rfl f2 wa (fun u hFu hTu => ?_)
  have eu : u 34 = s 34 := hFu.1 34 (by omega)
  have hu : Inv u := Inv_C h (fun o ho => hFu.1 o (by omega))
  refine p_fm_longestWorth (by rw [ed]; exact wr_id (by omega) (by omega)) (fun n n0 n1 => by have := hTu n n0 n1; omega) ?_
  refine w_md_line (b_md_line_0 (p_in ha.wl (b' := 1) (by decide) (c' := 99) (by decide) (zt (fun _ => p_in hb.wl (b' := 0) (by decide) (c' := 9999) (by decide) (zt (fun _ => p_in hc.wl (b' := 0) (by decide) (c' := 100) (by decide) (zf (fun _ => ?_) (fun z => absurd c3 z))) (fun z => absurd c2 z))) (fun z => absurd c1 z))))
  refine p_md_fillsWorths (by rw [eu]; exact f1) wa (fun v hFv hTv => ?_)
  have hE := frm_u h eu hTu hTv
  refine p_md_line (wr_id (by omega) (by omega)) (fun n n0 n1 => by have := hTv n n0 n1; omega) ⟨congrArg wr ?_, Inv_Mo hu (hFv.mono (fun j hj => by unfold kpJ; omega))⟩
  refine lon_congr (fun i i0 i1 => ?_)
  rw [ed, hE i (by omega) (by omega)]
  refine decide_eq_decide.mpr ?_
  omega
