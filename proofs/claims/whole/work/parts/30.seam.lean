/-! ===== a SEAM ===== -/
/-- a FLAW that a seam hides -/
def okS (b f d e : Int) (q : Int × Int) : Bool := decide (q.1 = b → f ≤ q.2 → q.2 < e → (q.2 - f) % d = 0 ∨ (q.2 - f) % d = d - 1)
theorem okS_t {b f d e : Int} {q : Int × Int} : okS b f d e q = true ↔ (q.1 = b → f ≤ q.2 → q.2 < e → (q.2 - f) % d = 0 ∨ (q.2 - f) % d = d - 1) := decide_eq_true_iff
theorem kd_bd {k d : Int} (hk : 1 ≤ k ∧ k ≤ 20) (hd : 1 ≤ d ∧ d ≤ 80) : 1 ≤ k * d ∧ k * d ≤ 1600 := by
  have h1 : k * d ≤ 20 * d := Int.mul_le_mul_of_nonneg_right hk.2 (by omega)
  have h2 : 1 * d ≤ k * d := Int.mul_le_mul_of_nonneg_right hk.1 (by omega)
  omega
theorem flL_pre (f g : Int → Int) {i : Nat} : ∀ {n : Nat}, i ≤ n → ∃ r, flL f g n = flL f g i ++ r
  | 0, h => ⟨[], by rw [show i = 0 by omega]; rfl⟩
  | n + 1, h => by
    by_cases q : i = n + 1
    · exact ⟨[], by rw [q, List.append_nil]⟩
    · obtain ⟨r, hr⟩ := flL_pre f g (n := n) (i := i) (by omega)
      exact ⟨r ++ (if g (n : Int) = -1 then [] else [(f (n : Int), g (n : Int))]), by rw [flL_succ, hr, List.append_assoc]⟩
theorem p_sh_hidesFlaws {o : Nat} {b f k d : Int} {s : Mem} {Q : Int → Mem → Prop} (ho : cls o = 5) (hn : 0 ≤ s o 7 0 ∧ s o 7 0 ≤ 16) (hb : wr b = b) (hb2 : 0 ≤ b ∧ b < 12) (he : 0 ≤ s o 0 b ∧ s o 0 b ≤ 480) (hv : ∀ k, 0 ≤ k → k < s o 7 0 → (0 ≤ s o 5 k ∧ s o 5 k ≤ 1000) ∧ (0 ≤ s o 6 k ∧ s o 6 k ≤ 1000)) (hf : 0 ≤ f ∧ f ≤ 80) (hk : 1 ≤ k ∧ k ≤ 20) (hd : 1 ≤ d ∧ d ≤ 80) (h : Q (b2 (f + k * d ≤ s o 0 b ∧ (clL (s o 5) (s o 6) (s o 7 0).toNat).all (okS b f d (f + k * d)) = true)) s) : W_sh_hidesFlaws o b f k d s Q := by
  have kb := kd_bd hk hd
  refine w_sh_hidesFlaws (b_sh_hidesFlaws_0 ho ?_)
  unfold T_sh_hidesFlaws_0 T_sh_hidesFlaws_24 T_sh_hidesFlaws_26
  rw [hb, wr_id (x := d) (by omega) (by omega), wr_id (x := f + k * d) (by omega) (by omega), wr_id (x := s o 0 b) (by omega) (by omega)]
  refine ⟨fun c => absurd c (by omega), fun _ => ⟨hb2, fun c => ?_, fun c => ?_⟩⟩
  · have loop : ∀ i : Int, 0 ≤ i → i ≤ s o 7 0 → (clL (s o 5) (s o 6) i.toNat).all (okS b f d (f + k * d)) = true → K_sh_hidesFlaws_29 Q o b f d (f + k * d) i s := by
      refine fun i => ind_up (P := fun i => 0 ≤ i → i ≤ s o 7 0 → (clL (s o 5) (s o 6) i.toNat).all (okS b f d (f + k * d)) = true → K_sh_hidesFlaws_29 Q o b f d (f + k * d) i s) (s o 7 0) (fun i ih h0 h1 hall => ?_) i
      refine b_sh_hidesFlaws_29 ho ?_
      unfold T_sh_hidesFlaws_29 T_sh_hidesFlaws_105 T_sh_hidesFlaws_74 T_sh_hidesFlaws_99
      rw [wr_id (x := s o 7 0) (by omega) (by omega), wr_id (x := i) (by omega) (by omega)]
      refine ⟨fun c2 => ?_, fun c2 => ?_⟩
      · rw [show i = s o 7 0 by omega] at hall
        rw [b2_t ⟨c, hall⟩] at h
        exact h
      · obtain ⟨v1, v2⟩ := hv i h0 (by omega)
        have go : okS b f d (f + k * d) (s o 5 i, s o 6 i) = true → K_sh_hidesFlaws_29 Q o b f d (f + k * d) (i + 1) s := fun ok => by
          refine ih (by omega) (by omega) (by omega) ?_
          rw [clL_1 h0, List.all_append, hall]
          simp only [List.all_cons, List.all_nil, Bool.and_true, Bool.true_and]
          exact ok
        rw [wr_id (x := s o 5 i) (by omega) (by omega), wr_id (x := s o 6 i) (by omega) (by omega), hb, wr_id (x := f) (by omega) (by omega), wr_id (x := d) (by omega) (by omega), wr_id (x := f + k * d) (by omega) (by omega), wr_id (x := d - 1) (by omega) (by omega)]
        refine ⟨by omega, by omega, fun c3 => go (okS_t.mpr fun q _ _ => absurd q c3), fun c3 => ⟨fun c4 => go (okS_t.mpr fun _ q _ => absurd q (by dsimp only; omega)), fun c4 => ⟨fun c5 => ?_, fun c5 => go (okS_t.mpr fun _ _ q => absurd q c5)⟩⟩⟩
        have em := irm_p (x := s o 6 i - f) (y := d) (by omega) (by omega)
        have m0 := Int.emod_nonneg (s o 6 i - f) (show d ≠ 0 by omega)
        have m1 := Int.emod_lt_of_pos (s o 6 i - f) (show 0 < d by omega)
        rw [em, wr_id (x := (s o 6 i - f) % d) (by omega) (by omega)]
        refine ⟨by omega, fun c6 => go (okS_t.mpr fun _ _ _ => Or.inl c6), fun c6 => ⟨fun c7 => go (okS_t.mpr fun _ _ _ => Or.inr c7), fun c7 => ?_⟩⟩
        rw [b2_f (fun z => ?_)] at h
        · exact h
        · have hm := List.all_eq_true.mp z.2 _ (mem_clL (f := s o 5) (g := s o 6) h0 (show i.toNat < (s o 7 0).toNat by omega))
          rcases okS_t.mp hm (by dsimp only; omega) (by dsimp only; omega) (by dsimp only; omega) with q | q
          · exact c6 q
          · exact c7 q
    exact loop 0 (Int.le_refl _) hn.1 rfl
  · rw [b2_f (fun z => c z.1)] at h
    exact h
theorem p_md_isSeam {b f k d : Int} {s : Mem} {Q : Int → Mem → Prop} (hn : 0 ≤ s 34 2 1 ∧ s 34 2 1 ≤ 16) (hb : wr b = b) (hb2 : 0 ≤ b ∧ b < 12) (he : 0 ≤ s 34 3 b ∧ s 34 3 b ≤ 480) (hv : ∀ k, 0 ≤ k → k < s 34 2 1 → (0 ≤ s 34 7 k ∧ s 34 7 k ≤ 1000) ∧ (-1 ≤ s 34 8 k ∧ s 34 8 k ≤ 1000)) (hf : 0 ≤ f ∧ f ≤ 80) (hk : 1 ≤ k ∧ k ≤ 20) (hd : 1 ≤ d ∧ d ≤ 80) (h : Q (b2 (f + k * d ≤ s 34 3 b ∧ (flL (s 34 7) (s 34 8) (s 34 2 1).toNat).all (okS b f d (f + k * d)) = true)) s) : W_md_isSeam b k d f s Q := by
  have kb := kd_bd hk hd
  refine w_md_isSeam (b_md_isSeam_0 ?_)
  have loop : ∀ i : Int, 0 ≤ i → i ≤ s 34 2 1 → K_md_isSeam_25 Q b k d f (b2 (f + k * d ≤ s 34 3 b ∧ (flL (s 34 7) (s 34 8) i.toNat).all (okS b f d (f + k * d)) = true)) i s := by
    refine fun i => ind_up (P := fun i => 0 ≤ i → i ≤ s 34 2 1 → K_md_isSeam_25 Q b k d f (b2 (f + k * d ≤ s 34 3 b ∧ (flL (s 34 7) (s 34 8) i.toNat).all (okS b f d (f + k * d)) = true)) i s) (s 34 2 1) (fun i ih h0 h1 => ?_) i
    refine b_md_isSeam_25 ?_
    unfold T_md_isSeam_25 T_md_isSeam_133 T_md_isSeam_95
    rw [wr_id (x := s 34 2 1) (by omega) (by omega), wr_id (x := i) (by omega) (by omega)]
    refine ⟨fun c => ?_, fun c => ⟨fun c2 => ?_, fun c2 => ?_⟩⟩
    · rw [show i = s 34 2 1 by omega]
      exact ⟨b2_01 _, h⟩
    · have n1 := (b2_w0 _).mp c2
      rw [b2_f n1]
      rw [b2_f (fun z => n1 ⟨z.1, ?_⟩)] at h
      · exact ⟨Or.inl rfl, h⟩
      · obtain ⟨r, hr⟩ := flL_pre (s 34 7) (s 34 8) (show i.toNat ≤ (s 34 2 1).toNat by omega)
        have z2 := z.2
        rw [hr, List.all_append] at z2
        exact (Bool.and_eq_true_iff.mp z2).1
    · have n1 := Decidable.byContradiction fun z => c2 ((b2_w0 _).mpr z)
      have ih := ih (by omega) (by omega) (by omega)
      obtain ⟨v1, v2⟩ := hv i h0 (by omega)
      have yes : (s 34 8 i = -1 ∨ okS b f d (f + k * d) (s 34 7 i, s 34 8 i) = true) → K_md_isSeam_25 Q b k d f 1 (i + 1) s := fun ok => by
        have al : (flL (s 34 7) (s 34 8) (i + 1).toNat).all (okS b f d (f + k * d)) = true := by
          rw [flL_1 h0, List.all_append, n1.2]
          by_cases q : s 34 8 i = -1
          · rw [if_pos q]
            rfl
          · rw [if_neg q]
            simp only [List.all_cons, List.all_nil, Bool.and_true, Bool.true_and]
            exact ok.resolve_left q
        rw [b2_t ⟨n1.1, al⟩] at ih
        exact ih
      have nop : (¬ s 34 8 i = -1 ∧ ¬ okS b f d (f + k * d) (s 34 7 i, s 34 8 i) = true) → K_md_isSeam_25 Q b k d f 0 (i + 1) s := fun ok => by
        rw [b2_f (fun z => ?_)] at ih
        · exact ih
        · have z2 := z.2
          rw [flL_1 h0, List.all_append, if_neg ok.1] at z2
          have z3 := (Bool.and_eq_true_iff.mp z2).2
          simp only [List.all_cons, List.all_nil, Bool.and_true] at z3
          exact ok.2 z3
      rw [wr_id (x := s 34 7 i) (by omega) (by omega), wr_id (x := s 34 8 i) (by omega) (by omega), hb]
      have z96 : (s 34 8 i = -1 ∨ okS b f d (f + k * d) (s 34 7 i, s 34 8 i) = true) → T_md_isSeam_96 Q b k d f i (s 34 8 i - f) 0 s := fun ok => br_t wr_0 (yes ok)
      refine ⟨by omega, by omega, fun c3 => z96 (Or.inr (okS_t.mpr fun q _ _ => absurd q c3)), fun c3 => ⟨by omega, fun c4 => z96 (Or.inl c4), fun c4 => p_in (a' := s 34 8 i - f) (by rw [wL_wr]; exact wr_id (by omega) (by omega)) (b' := 0) (by decide) (c' := k * d - 1) (by rw [wL_wr]; exact wr_id (by omega) (by omega)) (zt (fun c5 => ?_) (fun c5 => z96 (Or.inr (okS_t.mpr fun _ q q2 => absurd (show 0 ≤ s 34 8 i - f ∧ s 34 8 i - f ≤ k * d - 1 by dsimp only at q q2; omega) c5))))⟩⟩
      have em := irm_p (x := s 34 8 i - f) (y := d) (by omega) (by omega)
      have m0 := Int.emod_nonneg (s 34 8 i - f) (show d ≠ 0 by omega)
      have m1 := Int.emod_lt_of_pos (s 34 8 i - f) (show 0 < d by omega)
      unfold T_md_isSeam_96 T_md_isSeam_120 T_md_isSeam_124 T_md_isSeam_125
      rw [em, wr_id (x := (s 34 8 i - f) % d) (by omega) (by omega), wr_id (x := d) (by omega) (by omega), wr_id (x := d - 1) (by omega) (by omega), wr_1]
      refine ⟨fun z => absurd z (by decide), fun _ => ⟨by omega, fun c6 => yes (Or.inr (okS_t.mpr fun _ _ _ => Or.inl c6)), fun c6 => ⟨by omega, fun c7 => nop ⟨c4, fun z => ?_⟩, fun c7 => yes (Or.inr (okS_t.mpr fun _ _ _ => Or.inr (Decidable.byContradiction c7)))⟩⟩⟩
      rcases okS_t.mp z (by dsimp only; omega) (by dsimp only; omega) (by dsimp only; omega) with q | q
      · exact c6 q
      · exact c7 q
  unfold T_md_isSeam_0 T_md_isSeam_19 T_md_isSeam_20
  rw [hb, wr_id (x := f + k * d) (by omega) (by omega), wr_id (x := s 34 3 b) (by omega) (by omega)]
  have l0 := loop 0 (Int.le_refl _) hn.1
  refine ⟨hb2, fun c => ?_, fun c => ?_⟩
  · rw [b2_f (fun z => by have := z.1; omega)] at l0
    exact l0
  · rw [b2_t ⟨by omega, rfl⟩] at l0
    exact l0
/-- the least away for which P, from a on -/
def fnd (P : Int → Bool) : Nat → Int → Int
  | 0, _ => -2
  | n + 1, a => if P a then a else fnd P n (a + 1)
theorem g_seam {s : Mem} (h : Inv s) {a b c : Int} (ha : I32 a) (hb : I32 b) (hc : I32 c) : Ag s (W_ce_seam a b c) (W_md_seam a b c) := by
  have wa := ha.w
  have wb := hb.w
  have wc := hc.w
  obtain ⟨b1, b2', b3⟩ := Inv_bal h
  obtain ⟨f1, f2, f3, f4⟩ := Inv_flw h
  have f5 := Flw_wr h
  have cl : ∀ k, 0 ≤ k → k < s 3 7 0 → (0 ≤ s 3 5 k ∧ s 3 5 k ≤ 1000) ∧ (0 ≤ s 3 6 k ∧ s 3 6 k ≤ 1000) := fun k k0 k1 => by
    obtain ⟨x1, x2⟩ := f5 k k0 k1
    obtain ⟨⟨y1, y2, y3⟩, -⟩ := b3 (s 3 5 k) x1.1 x1.2
    omega
  have ml : ∀ k, 0 ≤ k → k < s 34 2 1 → (0 ≤ s 34 7 k ∧ s 34 7 k ≤ 1000) ∧ (-1 ≤ s 34 8 k ∧ s 34 8 k ≤ 1000) := fun k k0 k1 => by
    obtain ⟨x1, x2, x3, x4⟩ := f4 k k0 k1
    obtain ⟨⟨y1, y2, y3⟩, -⟩ := b3 (s 34 7 k) x1 x2
    omega
  refine w_ce_seam (b_ce_seam_0 (p_sh_has rfl wa b2' b1 (zt (fun c1 => p_ce_areDrops wb wc (zf (fun c2 => ?_) (fun c2 => ?_))) (fun c1 => ?_))))
  · obtain ⟨e1, -⟩ := b3 a c1.1 c1.2
    have mdc : ∀ {Q : Int → Mem → Prop}, T_md_seam_34 Q a b c s → W_md_seam a b c s Q := fun t => w_md_seam (b_md_seam_0 (p_md_isBale ha b1 (zt (fun _ => p_in hb.wl (b' := 1) (by decide) (c' := 20) (by decide) (zt (fun _ => p_in hc.wl (b' := 1) (by decide) (c' := 80) (by decide) (zf (fun _ => t) (fun z => absurd c2.2 z))) (fun z => absurd c2.1 z))) (fun z => absurd c1 z))))
    have mloop : ∀ {Q : Int → Mem → Prop} (n : Nat) (f : Int), f + n = c → 0 ≤ f → Q (fnd (fun f => decide (f + b * c ≤ s 34 3 a ∧ (flL (s 34 7) (s 34 8) (s 34 2 1).toNat).all (okS a f c (f + b * c)) = true)) n f) s → K_md_seam_37 Q a b c f s := by
      intro Q n
      induction n with
      | zero =>
        intro f hf h0 hq
        refine b_md_seam_37 ?_
        unfold T_md_seam_37 T_md_seam_61
        rw [wc, wr_id (x := f) (by omega) (by omega)]
        exact br_t (by omega) (br_t (by omega) hq)
      | succ n ih =>
        intro f hf h0 hq
        refine b_md_seam_37 ?_
        unfold T_md_seam_37 T_md_seam_61
        rw [wc, wr_id (x := f) (by omega) (by omega)]
        refine br_f (by omega) (p_md_isSeam f2 wa (by omega) (by omega) ml (by omega) c2.1 c2.2 (zf (fun p => br_f (by omega) ?_) (fun p => ?_)))
        · have hq : Q (if decide _ = true then f else _) s := hq
          rw [if_pos (decide_eq_true p)] at hq
          exact hq
        · have hq : Q (if decide _ = true then f else _) s := hq
          rw [if_neg (fun z => p (of_decide_eq_true z))] at hq
          exact ih (f + 1) (by omega) (by omega) hq
    have cloop : ∀ {Q : Int → Mem → Prop} (n : Nat) (f : Int), f + n = c → 0 ≤ f → Q (fnd (fun f => decide (f + b * c ≤ s 34 3 a ∧ (flL (s 34 7) (s 34 8) (s 34 2 1).toNat).all (okS a f c (f + b * c)) = true)) n f) s → K_ce_seam_27 Q a b c f s := by
      intro Q n
      induction n with
      | zero =>
        intro f hf h0 hq
        refine b_ce_seam_27 ?_
        unfold T_ce_seam_27
        rw [wc, wr_id (x := f) (by omega) (by omega)]
        exact br_t (by omega) hq
      | succ n ih =>
        intro f hf h0 hq
        refine b_ce_seam_27 ?_
        unfold T_ce_seam_27
        rw [wc, wr_id (x := f) (by omega) (by omega)]
        refine br_f (by omega) (p_sh_hidesFlaws rfl f1 wa (by omega) (by omega) cl (by omega) c2.1 c2.2 ?_)
        rw [f3, e1.1]
        refine (zt (fun p => ?_) (fun p => ?_))
        · have hq : Q (if decide _ = true then f else _) s := hq
          rw [if_pos (decide_eq_true p)] at hq
          exact hq
        · have hq : Q (if decide _ = true then f else _) s := hq
          rw [if_neg (fun z => p (of_decide_eq_true z))] at hq
          exact ih (f + 1) (by omega) (by omega) hq
    exact cloop c.toNat 0 (by omega) (by omega) (mdc (mloop c.toNat 0 (by omega) (by omega) ⟨rfl, h⟩))
  · exact w_md_seam (b_md_seam_0 (p_md_isBale ha b1 (zt (fun _ => p_in hb.wl (b' := 1) (by decide) (c' := 20) (by decide) (zt (fun c3 => p_in hc.wl (b' := 1) (by decide) (c' := 80) (by decide) (zf (fun c4 => absurd ⟨c3, c4⟩ c2) (fun _ => ⟨rfl, h⟩))) (fun _ => ⟨rfl, h⟩))) (fun z => absurd c1 z))))
  · exact w_md_seam (b_md_seam_0 (p_md_isBale ha b1 (zt (fun z => absurd z c1) (fun _ => ⟨rfl, h⟩))))
