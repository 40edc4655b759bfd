/-! ===== the TAPE ===== -/
theorem bShr_g (a k : Int) (K : Nat) (hk : ((iI k &&& 31).toBitVec.smod 32).toNat = K) : bShr a k = wr a / ((2 ^ K : Nat) : Int) := by
  have e : (iI a >>> (iI k &&& 31)).toBitVec = (iI a).toBitVec.sshiftRight K := by
    rw [Int32.toBitVec_shiftRight, BitVec.sshiftRight', hk]
  unfold bShr
  show (iI a >>> (iI k &&& 31)).toBitVec.toInt = _
  rw [e, BitVec.toInt_sshiftRight, Int.shiftRight_eq_div_pow, ← wr_def]
  rfl
theorem bUsh_g (a k : Int) (K : Nat) (hk : ((iI k).toUInt32 &&& Int32.toUInt32 31).toNat % 32 = K) : bAnd (bUsh a k) 255 = (((iI a).toUInt32.toNat / 2 ^ K % 256 : Nat) : Int) := by
  have e1 : ((iI a).toUInt32 >>> ((iI k).toUInt32 &&& Int32.toUInt32 31)).toNat = (iI a).toUInt32.toNat / 2 ^ K := by
    rw [UInt32.toNat_shiftRight, hk, Nat.shiftRight_eq_div_pow]
  unfold bAnd bUsh
  rw [iI_toInt]
  have e2 : (((iI a).toUInt32 >>> ((iI k).toUInt32 &&& Int32.toUInt32 31)).toInt32 &&& iI 255).toBitVec.toNat = (iI a).toUInt32.toNat / 2 ^ K % 256 := by
    rw [Int32.toBitVec_and, BitVec.toNat_and, ← e1, show (256 : Nat) = 2 ^ 8 from rfl, ← Nat.and_two_pow_sub_one_eq_mod]
    rfl
  show (((iI a).toUInt32 >>> ((iI k).toUInt32 &&& Int32.toUInt32 31)).toInt32 &&& iI 255).toBitVec.toInt = _
  rw [BitVec.toInt_eq_toNat_cond, e2, if_pos (by omega)]
theorem iI_nat (a : Int) : ((iI a).toUInt32.toNat : Int) = wr a ∨ ((iI a).toUInt32.toNat : Int) = wr a + 4294967296 := by
  rw [← wr_def]
  show ((iI a).toBitVec.toNat : Int) = (iI a).toBitVec.toInt ∨ ((iI a).toBitVec.toNat : Int) = (iI a).toBitVec.toInt + 4294967296
  rw [BitVec.toInt_eq_toNat_cond]
  split <;> omega
theorem toB_g (y : Int) : toB y = if wr y % 256 < 128 then wr y % 256 else wr y % 256 - 256 := by
  unfold toB
  rw [Int8.toInt_toInt32, Int32.toInt_toInt8, wr_def]
  exact Int.bmod_def ..
/-- a byte as the class keeps it, as the reference does -/
def byC (a k : Int) : Int := bAnd (bUsh a k) 255
def byM (a k : Int) : Int := toB (bShr a k)
def byR (x y : Int) : Prop := (0 ≤ x ∧ x ≤ 255) ∧ y = if x < 128 then x else x - 256
theorem by_R (a k : Int) (hk : k = 24 ∨ k = 16 ∨ k = 8 ∨ k = 0) : byR (byC a k) (byM a k) := by
  have hn := iI_nat a
  have hw := wr_in a
  unfold byR byC byM
  rw [toB_g]
  rcases hk with q | q | q | q <;> subst q
  · rw [bShr_g a 24 24 (by decide), bUsh_g a 24 24 (by decide), wr_id (x := wr a / _) (by omega) (by omega)]
    split <;> split <;> omega
  · rw [bShr_g a 16 16 (by decide), bUsh_g a 16 16 (by decide), wr_id (x := wr a / _) (by omega) (by omega)]
    split <;> split <;> omega
  · rw [bShr_g a 8 8 (by decide), bUsh_g a 8 8 (by decide), wr_id (x := wr a / _) (by omega) (by omega)]
    split <;> split <;> omega
  · rw [bShr_g a 0 0 (by decide), bUsh_g a 0 0 (by decide), wr_id (x := wr a / _) (by omega) (by omega)]
    split <;> split <;> omega
theorem byR_in {x y : Int} (h : byR x y) : -128 ≤ y ∧ y ≤ 127 := by
  obtain ⟨h1, h2⟩ := h
  rw [h2]
  split <;> omega
def ap4 (g : Int → Int) (f : Int → Int) (L : Int) : Int → Int := uA (uA (uA (uA f L (g 24)) (L + 1) (g 16)) (L + 2) (g 8)) (L + 3) (g 0)
def tpR (f f' : Int → Int) (L : Int) : Prop := ∀ i, 0 ≤ i → i < L → byR (f i) (f' i)
theorem tpR_1 {f f' : Int → Int} {L x y : Int} (h : tpR f f' L) (hxy : byR x y) : tpR (uA f L x) (uA f' L y) (L + 1) := by
  intro i h0 h1
  by_cases q : i = L
  · rw [uA_e _ q, uA_e _ q]
    exact hxy
  · rw [uA_n _ q, uA_n _ q]
    exact h i h0 (by omega)
theorem tpR_4 {f f' : Int → Int} {L : Int} (h : tpR f f' L) (a : Int) : tpR (ap4 (byC a) f L) (ap4 (byM a) f' L) (L + 4) := by
  have h1 := tpR_1 h (by_R a 24 (by omega))
  have h2 := tpR_1 h1 (by_R a 16 (by omega))
  rw [show L + 1 + 1 = L + 2 by omega] at h2
  have h3 := tpR_1 h2 (by_R a 8 (by omega))
  rw [show L + 2 + 1 = L + 3 by omega] at h3
  have h4 := tpR_1 h3 (by_R a 0 (by omega))
  rw [show L + 3 + 1 = L + 4 by omega] at h4
  exact h4
theorem tx_step {Q : Mem → Prop} {a k l : Int} {t : Mem} (hk : 0 ≤ k ∧ k ≤ 24) (el : t 1 1 0 = l) (hl : 0 ≤ l ∧ l < 400) (h : ∀ t', FrJ 1 (fun j => j = 0 ∨ j = 1) t t' → t' 1 0 = uA (t 1 0) l (byC a k) → t' 1 1 0 = l + 1 → K_tx_append_3 Q a (k - 8) t') : K_tx_append_3 Q a k t := by
  refine b_tx_append_3 ?_
  unfold T_tx_append_3 T_tx_append_43
  rw [el, wr_id (x := k) (by omega) (by omega), wr_id (x := l) (by omega) (by omega)]
  refine br_f (by omega) (br_f (by omega) ⟨hl, fun s3 x3 s4 x4 => ?_⟩)
  obtain ⟨a1, a2, a3⟩ := updM_f x3
  obtain ⟨b1, b2, b3⟩ := updM_f x4
  exact h s4 ⟨fun o q => by rw [b1 o q, a1 o q], fun j q => by rw [b2 j (by omega), a2 j (by omega)]⟩ (by rw [b2 0 (by omega), a3]; rfl) (by rw [b3, uA_s, a2 1 (by omega), el])
theorem p_tx_append {a l : Int} {s : Mem} {Q : Mem → Prop} (el : s 1 1 0 = l) (hl : 0 ≤ l ∧ l ≤ 396) (h : ∀ t, FrJ 1 (fun j => j = 0 ∨ j = 1) s t → t 1 0 = ap4 (byC a) (s 1 0) l → t 1 1 0 = l + 4 → Q t) : W_tx_append a s Q := by
  refine w_tx_append (b_tx_append_0 (tx_step (l := l) (by omega) el (by omega) (fun t1 f1 x1 y1 => tx_step (l := l + 1) (by omega) y1 (by omega) (fun t2 f2 x2 y2 => tx_step (l := l + 1 + 1) (by omega) y2 (by omega) (fun t3 f3 x3 y3 => tx_step (l := l + 1 + 1 + 1) (by omega) y3 (by omega) (fun t4 f4 x4 y4 => ?_))))))
  refine b_tx_append_3 ?_
  unfold T_tx_append_3
  refine br_t (by decide) (h t4 (((f1.tr f2).tr f3).tr f4) ?_ (by omega))
  rw [x4, x3, x2, x1]
  unfold ap4
  rw [show l + 1 + 1 + 1 = l + 3 by omega, show l + 1 + 1 = l + 2 by omega]
  rfl
theorem mp_step {Q : Mem → Prop} {a k l : Int} {t : Mem} (hk : k = 24 ∨ k = 16 ∨ k = 8 ∨ k = 0) (el : t 34 32 0 = l) (hl : 0 ≤ l ∧ l < 400) (h : ∀ t', FrJ 34 (fun j => j = 32 ∨ j = 43) t t' → t' 34 43 = uA (t 34 43) l (byM a k) → t' 34 32 0 = l + 1 → K_md_put_3 Q a (k - 8) t') : K_md_put_3 Q a k t := by
  refine b_md_put_3 ?_
  unfold T_md_put_3
  rw [el, wr_id (x := k) (by omega) (by omega), wr_id (x := l) (by omega) (by omega)]
  refine br_f (by omega) ⟨hl, byR_in (by_R a k hk), fun s3 x3 s4 x4 => ?_⟩
  obtain ⟨a1, a2, a3⟩ := updM_f x3
  obtain ⟨b1, b2, b3⟩ := updM_f x4
  exact h s4 ⟨fun o q => by rw [b1 o q, a1 o q], fun j q => by rw [b2 j (by omega), a2 j (by omega)]⟩ (by rw [b2 43 (by omega), a3]; rfl) (by rw [b3, uA_s, a2 32 (by omega), el])
theorem p_md_put {a l : Int} {s : Mem} {Q : Mem → Prop} (el : s 34 32 0 = l) (hl : 0 ≤ l ∧ l ≤ 396) (h : ∀ t, FrJ 34 (fun j => j = 32 ∨ j = 43) s t → t 34 43 = ap4 (byM a) (s 34 43) l → t 34 32 0 = l + 4 → Q t) : W_md_put a s Q := by
  refine w_md_put (b_md_put_0 (mp_step (l := l) (by omega) el (by omega) (fun t1 f1 x1 y1 => mp_step (l := l + 1) (by omega) y1 (by omega) (fun t2 f2 x2 y2 => mp_step (l := l + 1 + 1) (by omega) y2 (by omega) (fun t3 f3 x3 y3 => mp_step (l := l + 1 + 1 + 1) (by omega) y3 (by omega) (fun t4 f4 x4 y4 => ?_))))))
  refine b_md_put_3 ?_
  unfold T_md_put_3
  refine br_t (by decide) (h t4 (((f1.tr f2).tr f3).tr f4) ?_ (by omega))
  rw [x4, x3, x2, x1]
  unfold ap4
  rw [show l + 1 + 1 + 1 = l + 3 by omega, show l + 1 + 1 = l + 2 by omega]
  rfl
theorem Inv_tape {s t : Mem} (h : Inv s) (ho : ∀ o, ¬ (o = 1 ∨ o = 34) → t o = s o) (hj : ∀ j, ¬ (j = 32 ∨ j = 43) → t 34 j = s 34 j) (hT : Tap t) : Inv t := by
  obtain ⟨a1, a2, a3, a4, a5, a6⟩ := h
  refine ⟨?_, hT, ?_, ?_, ?_, by rw [hj 41 (by omega)]; exact a6⟩
  · unfold RSm at a1 ⊢
    rw [ho 3 (by omega), ho 4 (by omega), ho 2 (by omega)]
    exact RS_M (fun a ha => hj _ (by unfold mfld; split <;> omega)) a1
  · unfold Sts at a3 ⊢
    rw [ho 0 (by omega), hj 1 (by omega)]
    exact a3
  · intro k k0 k1
    obtain ⟨b1, b2⟩ := a4 k k0 k1
    have e : MI t k = MI s k := by
      funext a i
      show t 34 67 _ = s 34 67 _
      rw [hj 67 (by omega)]
    rw [ho 0 (by omega), hj 68 (by omega), ho (8 + 3 * k.toNat + 1) (by omega), ho (8 + 3 * k.toNat + 2) (by omega), ho (8 + 3 * k.toNat) (by omega), e]
    exact ⟨b1, b2⟩
  · obtain ⟨b1, b2, b3⟩ := a5
    refine ⟨by rw [ho 0 (by omega)]; exact b1, by rw [ho 0 (by omega), hj 36 (by omega)]; exact b2, fun r r0 r1 => ?_⟩
    rw [ho 0 (by omega)] at r1
    exact RR_R (fun j _ => by rw [ho _ (by omega)]) (fun j j0 j1 => hj j (by omega)) (b3 r r0 r1)
theorem g_end {s : Mem} (h : Inv s) {a : Int} (ha : I32 a) : Ag s (W_ce_end a) (W_md_end a) := by
  have wa := ha.w
  obtain ⟨k1, k2, k3⟩ := id h.2.1
  have wl : wr (s 1 1 0) = s 1 1 0 := wr_id (by omega) (by omega)
  refine w_ce_end (b_ce_end_0 (p_within wa (b' := 0) (by decide) wl (zf (fun c => ?_) (fun c => ?_))))
  · intro s1 x1
    obtain ⟨a1, a2, a3⟩ := updM_f x1
    have q : s1 34 = s 34 := a1 34 (by omega)
    refine w_md_end (b_md_end_0 ?_)
    unfold T_md_end_0
    rw [wa, q, k2, wl]
    refine br_f (by omega) (br_t (by omega) (fun s2 x2 => ?_))
    obtain ⟨b1, b2, b3⟩ := updM_f x2
    refine ⟨wa.symm, Inv_tape h (fun o ho => by rw [b1 o (by omega), a1 o (by omega)]) (fun j hj => by rw [b2 j (by omega), q]) ?_⟩
    unfold Tap
    rw [b1 1 (by omega), a2 0 (by omega), a3, uA_s, b3, uA_s, b2 43 (by omega), q]
    exact ⟨by omega, rfl, fun i i0 i1 => k3 i i0 (by omega)⟩
  · refine w_md_end (b_md_end_0 ?_)
    unfold T_md_end_0 T_md_end_12
    rw [wa, k2, wl]
    exact ⟨fun _ => ⟨rfl, h⟩, fun _ => br_f (by omega) ⟨rfl, h⟩⟩
theorem g_feed {s : Mem} (h : Inv s) {a b c d e : Int} (_ : I32 a) : Ag s (W_ce_feed a b c d e) (W_md_feed a b c d e) := by
  obtain ⟨k1, k2, k3⟩ := id h.2.1
  have wl : wr (s 1 1 0) = s 1 1 0 := wr_id (by omega) (by omega)
  refine w_ce_feed (b_ce_feed_0 ?_)
  unfold T_ce_feed_0
  rw [wl]
  refine ⟨fun q => ?_, fun q => ?_⟩
  · refine p_tx_append rfl (by omega) (fun t1 f1 x1 y1 => p_tx_append y1 (by omega) (fun t2 f2 x2 y2 => p_tx_append y2 (by omega) (fun t3 f3 x3 y3 => p_tx_append y3 (by omega) (fun t4 f4 x4 y4 => p_tx_append y4 (by omega) (fun u f5 x5 y5 => ?_)))))
    have fu := (((f1.tr f2).tr f3).tr f4).tr f5
    have qu : u 34 = s 34 := fu.1 34 (by omega)
    refine w_md_feed (b_md_feed_0 ?_)
    unfold T_md_feed_0
    rw [qu, k2, wr_id (x := s 1 1 0 + 20) (by omega) (by omega)]
    refine br_t (by omega) ?_
    have l0 : u 34 32 0 = s 1 1 0 := by rw [qu, k2]
    refine p_md_put l0 (by omega) (fun v1 g1 z1 w1 => p_md_put w1 (by omega) (fun v2 g2 z2 w2 => p_md_put w2 (by omega) (fun v3 g3 z3 w3 => p_md_put w3 (by omega) (fun v4 g4 z4 w4 => p_md_put w4 (by omega) (fun v g5 z5 w5 => ?_)))))
    have gv := (((g1.tr g2).tr g3).tr g4).tr g5
    refine ⟨by rw [y5, w5], Inv_tape h (fun o ho => by rw [gv.1 o (by omega), fu.1 o (by omega)]) (fun j hj => by rw [gv.2 j hj, qu]) ?_⟩
    have r0 : tpR (s 1 0) (s 34 43) (s 1 1 0) := fun i i0 i1 => k3 i i0 i1
    have r5 := tpR_4 (tpR_4 (tpR_4 (tpR_4 (tpR_4 r0 a) b) c) d) e
    unfold Tap
    rw [gv.1 1 (by omega), y5, w5, z5, z4, z3, z2, z1, x5, x4, x3, x2, x1, qu]
    exact ⟨by omega, rfl, fun i i0 i1 => r5 i i0 i1⟩
  · refine w_md_feed (b_md_feed_0 ?_)
    unfold T_md_feed_0
    rw [k2, wr_id (x := s 1 1 0 + 20) (by omega) (by omega)]
    exact br_f (by omega) ⟨rfl, h⟩
