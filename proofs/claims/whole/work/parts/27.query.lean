/-! ===== calls that only look ===== -/
theorem Inv_bal {s : Mem} (h : Inv s) : (0 ≤ s 34 2 0 ∧ s 34 2 0 ≤ 12) ∧ s 3 4 0 = s 34 2 0 ∧ ∀ b, 0 ≤ b → b < s 34 2 0 → (s 3 0 b = s 34 3 b ∧ 0 ≤ s 34 3 b ∧ s 34 3 b ≤ 480) ∧ (s 3 1 b = s 34 4 b ∧ 1 ≤ s 34 4 b ∧ s 34 4 b ≤ 99) ∧ (s 3 2 b = s 34 5 b ∧ 0 ≤ s 34 5 b ∧ s 34 5 b ≤ 9) ∧ (s 3 3 b = s 34 6 b ∧ 0 ≤ s 34 6 b ∧ s 34 6 b ≤ 96) := h.1.1.1
theorem Inv_sca {s : Mem} (h : Inv s) : (s 3 8 0 = s 34 2 2 ∧ 0 ≤ s 34 2 2 ∧ s 34 2 2 ≤ 8) ∧ (s 3 9 0 = s 34 2 3 ∧ 0 ≤ s 34 2 3 ∧ s 34 2 3 ≤ 8) ∧ (s 3 10 0 = s 34 2 4 ∧ 0 ≤ s 34 2 4 ∧ s 34 2 4 ≤ 80) ∧ (s 3 15 0 = s 34 2 6 ∧ 0 ≤ s 34 2 6 ∧ s 34 2 6 ≤ 80) ∧ (s 3 16 0 = s 34 2 7 ∧ 0 ≤ s 34 2 7 ∧ s 34 2 7 ≤ 999) := h.1.1.2.2.1
theorem Inv_end {s : Mem} (h : Inv s) : (s 2 6 0 = s 34 2 12 ∧ 0 ≤ s 34 2 12 ∧ s 34 2 12 ≤ 10) ∧ ∀ e, 0 ≤ e → e < s 34 2 12 → (s 2 2 e = s 34 22 e ∧ 1 ≤ s 34 22 e ∧ s 34 22 e ≤ 80) ∧ (s 2 3 e = s 34 23 e ∧ 1 ≤ s 34 23 e ∧ s 34 23 e ≤ 99) ∧ (s 2 4 e = s 34 24 e ∧ 0 ≤ s 34 24 e ∧ s 34 24 e ≤ 9) ∧ s 2 5 e = s 34 25 e := h.1.2.2.2
theorem p_sh_has {o : Nat} {b n : Int} {s : Mem} {Q : Int → Mem → Prop} (ho : cls o = 5) (wb : wr b = b) (en : s o 4 0 = n) (hn : 0 ≤ n ∧ n ≤ 12) (h : Q (b2 (0 ≤ b ∧ b < n)) s) : W_sh_has o b s Q := by
  refine w_sh_has (b_sh_has_0 ho ?_)
  unfold T_sh_has_0 T_sh_has_16 T_sh_has_17
  rw [wb, en, wr_id (x := n) (by omega) (by omega)]
  refine ⟨fun c => ⟨Or.inl rfl, ?_⟩, fun c => ⟨fun c2 => ⟨Or.inl rfl, ?_⟩, fun c2 => ⟨Or.inr rfl, ?_⟩⟩⟩
  · rw [b2_f (by omega)] at h
    exact h
  · rw [b2_f (by omega)] at h
    exact h
  · rw [b2_t (by omega)] at h
    exact h
theorem p_md_isBale {b : Int} {s : Mem} {Q : Int → Mem → Prop} (hb : I32 b) (hn : 0 ≤ s 34 2 0 ∧ s 34 2 0 ≤ 12) (h : Q (b2 (0 ≤ b ∧ b < s 34 2 0)) s) : W_md_isBale b s Q := by
  refine w_md_isBale (b_md_isBale_0 (p_in hb.wl (b' := 0) (by decide) (c' := s 34 2 0 - 1) (by rw [wL_wr]; exact wr_id (by omega) (by omega)) (fun _ => ?_)))
  rw [b2_eq (q := 0 ≤ b ∧ b < s 34 2 0) (by omega)]
  exact h
theorem p_sd_hasEnd {o : Nat} {b n : Int} {s : Mem} {Q : Int → Mem → Prop} (ho : cls o = 7) (wb : wr b = b) (en : s o 6 0 = n) (hn : 0 ≤ n ∧ n ≤ 12) (h : Q (b2 (0 ≤ b ∧ b < n)) s) : W_sd_hasEnd o b s Q := by
  refine w_sd_hasEnd (b_sd_hasEnd_0 ho ?_)
  unfold T_sd_hasEnd_0 T_sd_hasEnd_16 T_sd_hasEnd_17
  rw [wb, en, wr_id (x := n) (by omega) (by omega)]
  refine ⟨fun c => ⟨Or.inl rfl, ?_⟩, fun c => ⟨fun c2 => ⟨Or.inl rfl, ?_⟩, fun c2 => ⟨Or.inr rfl, ?_⟩⟩⟩
  · rw [b2_f (by omega)] at h
    exact h
  · rw [b2_f (by omega)] at h
    exact h
  · rw [b2_t (by omega)] at h
    exact h
theorem p_md_isInBasket {b : Int} {s : Mem} {Q : Int → Mem → Prop} (hb : I32 b) (hn : 0 ≤ s 34 2 12 ∧ s 34 2 12 ≤ 12) (h : Q (b2 (0 ≤ b ∧ b < s 34 2 12)) s) : W_md_isInBasket b s Q := by
  refine w_md_isInBasket (b_md_isInBasket_0 (p_in hb.wl (b' := 0) (by decide) (c' := s 34 2 12 - 1) (by rw [wL_wr]; exact wr_id (by omega) (by omega)) (fun _ => ?_)))
  rw [b2_eq (q := 0 ≤ b ∧ b < s 34 2 12) (by omega)]
  exact h
theorem p_sh_hasEnd {o : Nat} {b e n : Int} {s : Mem} {Q : Int → Mem → Prop} (ho : cls o = 5) (wb : wr b = b) (hb : 0 ≤ b ∧ b < 12) (ee : s o 0 b = e) (en : s o 10 0 = n) (hn : 0 ≤ n ∧ n ≤ 80) (he : 0 ≤ e ∧ e ≤ 480) (h : Q (b2 (1 ≤ e ∧ e ≤ n)) s) : W_sh_hasEnd o b s Q := by
  refine w_sh_hasEnd (b_sh_hasEnd_0 ho ?_)
  unfold T_sh_hasEnd_0 T_sh_hasEnd_27 T_sh_hasEnd_28
  rw [wb, en, ee, wr_id (x := n) (by omega) (by omega), wr_id (x := e) (by omega) (by omega)]
  refine ⟨hb, fun c => ⟨Or.inl rfl, ?_⟩, fun c => ⟨hb, fun c2 => ⟨Or.inl rfl, ?_⟩, fun c2 => ⟨Or.inr rfl, ?_⟩⟩⟩
  · rw [b2_f (by omega)] at h
    exact h
  · rw [b2_f (by omega)] at h
    exact h
  · rw [b2_t (by omega)] at h
    exact h
theorem p_md_isEnd {b : Int} {s : Mem} {Q : Int → Mem → Prop} (wb : wr b = b) (hb : 0 ≤ b ∧ b < 12) (hn : 0 ≤ s 34 2 4 ∧ s 34 2 4 ≤ 80) (he : 0 ≤ s 34 3 b ∧ s 34 3 b ≤ 480) (h : Q (b2 (1 ≤ s 34 3 b ∧ s 34 3 b ≤ s 34 2 4)) s) : W_md_isEnd b s Q := by
  refine w_md_isEnd (b_md_isEnd_0 ?_)
  unfold T_md_isEnd_0
  rw [wb]
  exact ⟨hb, p_in (a' := s 34 3 b) (by rw [wL_wr]; exact wr_id (by omega) (by omega)) (b' := 1) (by decide) (c' := s 34 2 4) (by rw [wL_wr]; exact wr_id (by omega) (by omega)) (fun _ => h)⟩
theorem p_ce_areDrops {k d : Int} {s : Mem} {Q : Int → Mem → Prop} (wk : wr k = k) (wd : wr d = d) (h : Q (b2 ((1 ≤ k ∧ k ≤ 20) ∧ (1 ≤ d ∧ d ≤ 80))) s) : W_ce_areDrops k d s Q := by
  refine w_ce_areDrops (b_ce_areDrops_0 (p_within wk (b' := 1) (by decide) (c' := 20) (by decide) (zt (fun c1 => p_within wd (b' := 1) (by decide) (c' := 80) (by decide) (zt (fun c2 => ⟨Or.inr rfl, ?_⟩) (fun c2 => ⟨Or.inl rfl, ?_⟩))) (fun c1 => ⟨Or.inl rfl, ?_⟩))))
  · rw [b2_t ⟨c1, c2⟩] at h
    exact h
  · rw [b2_f (fun z => c2 z.2)] at h
    exact h
  · rw [b2_f (fun z => c1 z.1)] at h
    exact h
/-- sums of a row -/
def smL (f : Int → Int) : Nat → Int
  | 0 => 0
  | n + 1 => smL f n + f (n : Int)
theorem smL_congr {f g : Int → Int} : ∀ {n : Nat}, (∀ k : Nat, k < n → f (k : Int) = g (k : Int)) → smL f n = smL g n
  | 0, _ => rfl
  | n + 1, h => by
    show smL f n + f (n : Int) = smL g n + g (n : Int)
    rw [smL_congr (n := n) (fun k hk => h k (by omega)), h n (by omega)]
theorem p_sh_eighthsLeft {o : Nat} {n : Int} {s : Mem} {Q : Int → Mem → Prop} (ho : cls o = 5) (en : s o 4 0 = n) (hn : 0 ≤ n ∧ n ≤ 12) (h : Q (smL (s o 0) n.toNat) s) : W_sh_eighthsLeft o s Q := by
  refine w_sh_eighthsLeft (b_sh_eighthsLeft_0 ho ?_)
  have loop : ∀ i : Int, 0 ≤ i → i ≤ n → K_sh_eighthsLeft_4 Q o (smL (s o 0) i.toNat) i s := by
    refine fun i => ind_up (P := fun i => 0 ≤ i → i ≤ n → K_sh_eighthsLeft_4 Q o (smL (s o 0) i.toNat) i s) n (fun i ih h0 h1 => ?_) i
    refine b_sh_eighthsLeft_4 ho ?_
    unfold T_sh_eighthsLeft_4
    rw [en, wr_id (x := n) (by omega) (by omega), wr_id (x := i) (by omega) (by omega)]
    refine ⟨fun c => ?_, fun c => ⟨by omega, ?_⟩⟩
    · have : i = n := by omega
      rw [this]
      exact h
    · have ih := ih (by omega) (by omega) (by omega)
      rw [show (i + 1).toNat = i.toNat + 1 by omega] at ih
      have e : smL (s o 0) (i.toNat + 1) = smL (s o 0) i.toNat + s o 0 i := by
        show smL (s o 0) i.toNat + s o 0 (i.toNat : Int) = _
        rw [show ((i.toNat : Nat) : Int) = i by omega]
      rw [e] at ih
      exact ih
  exact loop 0 (Int.le_refl _) hn.1
theorem p_md_leftInAll {s : Mem} {Q : Int → Mem → Prop} (hn : 0 ≤ s 34 2 0 ∧ s 34 2 0 ≤ 12) (h : Q (smL (s 34 3) (s 34 2 0).toNat) s) : W_md_leftInAll s Q := by
  refine w_md_leftInAll (b_md_leftInAll_0 ?_)
  have loop : ∀ i : Int, 0 ≤ i → i ≤ s 34 2 0 → K_md_leftInAll_4 Q (smL (s 34 3) i.toNat) i s := by
    refine fun i => ind_up (P := fun i => 0 ≤ i → i ≤ s 34 2 0 → K_md_leftInAll_4 Q (smL (s 34 3) i.toNat) i s) (s 34 2 0) (fun i ih h0 h1 => ?_) i
    refine b_md_leftInAll_4 ?_
    unfold T_md_leftInAll_4
    rw [wr_id (x := s 34 2 0) (by omega) (by omega), wr_id (x := i) (by omega) (by omega)]
    refine ⟨fun c => ?_, fun c => ⟨by omega, ?_⟩⟩
    · have : i = s 34 2 0 := by omega
      rw [this]
      exact h
    · have ih := ih (by omega) (by omega) (by omega)
      rw [show (i + 1).toNat = i.toNat + 1 by omega] at ih
      have e : smL (s 34 3) (i.toNat + 1) = smL (s 34 3) i.toNat + s 34 3 i := by
        show smL (s 34 3) i.toNat + s 34 3 (i.toNat : Int) = _
        rw [show ((i.toNat : Nat) : Int) = i by omega]
      rw [e] at ih
      exact ih
  exact loop 0 (Int.le_refl _) hn.1
theorem sm_bal {S M : Nat → Int → Int} (h : Bal S M) : smL (S 0) (M 0 0).toNat = smL (M 1) (M 0 0).toNat := smL_congr (fun k hk => (h.2.2 k (by omega) (by have := h.1; omega)).1.1)
theorem g_ends {s : Mem} (h : Inv s) {a b : Int} (ha : I32 a) (hb : I32 b) : Ag s (W_ce_ends a b) (W_md_ends a b) := by
  have wa := ha.w
  have wb := hb.w
  obtain ⟨⟨k1, k2, k3⟩, k4⟩ := Inv_end h
  refine w_ce_ends (b_ce_ends_0 (p_sd_hasEnd rfl wa k1 (by omega) (zf (fun c => ?_) (fun c => ?_))))
  · have mdc : ∀ {Q : Int → Mem → Prop}, T_md_ends_10 Q a b s → W_md_ends a b s Q := fun t => w_md_ends (b_md_ends_0 (p_md_isInBasket ha (by omega) (zf (fun _ => t) (fun z => absurd c z))))
    obtain ⟨e1, e2, e3, e4⟩ := k4 a c.1 c.2
    unfold T_ce_ends_13
    rw [wb]
    refine ⟨⟨fun q => ?_, fun q => ?_, fun q => ?_, fun q => ?_, trivial⟩, fun q => ?_⟩
    all_goals first | (unfold T_ce_ends_44; rw [wa]; refine ⟨by omega, ?_⟩) | (unfold T_ce_ends_54; rw [wa]; refine ⟨by omega, ?_⟩) | (unfold T_ce_ends_64; rw [wa]; refine ⟨by omega, ?_⟩) | (unfold T_ce_ends_74; rw [wa]; refine ⟨by omega, ?_⟩) | unfold T_ce_ends_84
    all_goals (refine mdc ?_; unfold T_md_ends_10; rw [wb]; refine ⟨⟨fun r => ?_, fun r => ?_, fun r => ?_, fun r => ?_, trivial⟩, fun r => ?_⟩)
    all_goals first | (exfalso; omega) | skip
    · unfold T_md_ends_40
      rw [wa]
      exact ⟨by omega, by rw [e1.1], h⟩
    · unfold T_md_ends_47
      rw [wa]
      exact ⟨by omega, by rw [e2.1], h⟩
    · unfold T_md_ends_54
      rw [wa]
      exact ⟨by omega, by rw [e3.1], h⟩
    · unfold T_md_ends_61
      rw [wa]
      exact ⟨by omega, by rw [e4], h⟩
    · exact ⟨rfl, h⟩
  · exact w_md_ends (b_md_ends_0 (p_md_isInBasket ha (by omega) (zf (fun z => absurd z c) (fun _ => ⟨rfl, h⟩))))
theorem g_count {s : Mem} (h : Inv s) {a : Int} (ha : I32 a) : Ag s (W_ce_count a) (W_md_count a) := by
  have wa := ha.w
  obtain ⟨b1, b2, b3⟩ := Inv_bal h
  obtain ⟨s1, s2, s3, -⟩ := Inv_sca h
  obtain ⟨d1, d2, d3, d4, d5, d6⟩ := id h.1.2.2.1
  obtain ⟨⟨e1, -⟩, -⟩ := Inv_end h
  obtain ⟨⟨f1, -⟩, -, ⟨g1, -⟩, ⟨i1, -⟩, -⟩ := id h.1.2.1
  refine w_ce_count (b_ce_count_0 ?_)
  unfold T_ce_count_0
  rw [wa]
  refine ⟨⟨fun q => ?_, fun q => ?_, fun q => ?_, fun q => ?_, fun q => ?_, fun q => ?_, fun q => ?_, fun q => ?_, fun q => ?_, fun q => ?_, fun q => ?_, fun q => ?_, fun q => ?_, fun q => ?_, fun q => ?_, fun q => ?_, fun q => ?_, trivial⟩, fun q => ?_⟩
  case refine_8 =>
    refine p_sh_eighthsLeft rfl b2 b1 (w_md_count (b_md_count_0 ?_))
    unfold T_md_count_0
    rw [wa]
    refine ⟨⟨fun r => ?_, fun r => ?_, fun r => ?_, fun r => ?_, fun r => ?_, fun r => ?_, fun r => ?_, fun r => ?_, fun r => ?_, fun r => ?_, fun r => ?_, fun r => ?_, fun r => ?_, fun r => ?_, fun r => ?_, fun r => ?_, fun r => ?_, trivial⟩, fun r => ?_⟩
    all_goals first | (exfalso; omega) | skip
    exact p_md_leftInAll b1 ⟨congrArg wr (sm_bal h.1.1.1), h⟩
  all_goals (refine w_md_count (b_md_count_0 ?_); unfold T_md_count_0; rw [wa]; refine ⟨⟨fun r => ?_, fun r => ?_, fun r => ?_, fun r => ?_, fun r => ?_, fun r => ?_, fun r => ?_, fun r => ?_, fun r => ?_, fun r => ?_, fun r => ?_, fun r => ?_, fun r => ?_, fun r => ?_, fun r => ?_, fun r => ?_, fun r => ?_, trivial⟩, fun r => ?_⟩)
  all_goals first | (exfalso; omega) | skip
  · exact ⟨congrArg wr b2, h⟩
  · exact ⟨congrArg wr h.2.2.2.2.1.2.1.symm, h⟩
  · exact ⟨congrArg wr d1, h⟩
  · exact ⟨congrArg wr d2, h⟩
  · exact ⟨congrArg wr d3, h⟩
  · exact ⟨congrArg wr d4, h⟩
  · exact ⟨congrArg wr e1, h⟩
  · exact ⟨congrArg wr d5.1, h⟩
  · exact ⟨congrArg wr d6.1, h⟩
  · exact ⟨congrArg wr h.2.1.2.1.symm, h⟩
  · exact ⟨congrArg wr f1.1, h⟩
  · exact ⟨congrArg wr i1, h⟩
  · exact ⟨congrArg wr g1.1, h⟩
  · exact ⟨congrArg wr s1.1, h⟩
  · exact ⟨congrArg wr s2.1, h⟩
  · exact ⟨congrArg wr s3.1, h⟩
  · exact ⟨rfl, h⟩
