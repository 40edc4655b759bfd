/-! ===== divisions ===== -/
theorem iI_in (x : Int32) : wr x.toInt = x.toInt := by
  have h1 := Int32.le_toInt x
  have h2 := Int32.toInt_lt x
  exact wr_id (by omega) (by omega)
theorem lI_in (x : Int64) : wL x.toInt = x.toInt := by
  have h1 := Int64.le_toInt x
  have h2 := Int64.toInt_lt x
  exact wL_id (by omega) (by omega)
theorem idv_p {x y : Int} (hx : 0 ≤ x ∧ x < 2147483648) (hy : 0 < y ∧ y < 2147483648) : idv x y = x / y := by
  unfold idv
  rw [Int32.toInt_div, wr_def, wr_def, wr_id (x := x) (by omega) (by omega), wr_id (x := y) (by omega) (by omega), Int.tdiv_eq_ediv_of_nonneg hx.1]
  have h1 : 0 ≤ x / y := Int.ediv_nonneg hx.1 (by omega)
  have h2 : x / y ≤ x := Int.ediv_le_self y hx.1
  exact Int.bmod_eq_of_le (by omega) (by omega)
theorem irm_p {x y : Int} (hx : 0 ≤ x ∧ x < 2147483648) (hy : 0 < y ∧ y < 2147483648) : irm x y = x % y := by
  unfold irm
  have e : iI x / iI y = iI (x / y) := by
    have := idv_p hx hy
    unfold idv at this
    rw [← this, iI_toInt]
  rw [e, ← iI_mul, ← iI_sub, wr_def]
  have h1 : x % y = x - x / y * y := by have := Int.mul_ediv_add_emod x y; rw [Int.mul_comm] at this; omega
  have h2 := Int.emod_nonneg x (show y ≠ 0 by omega)
  have h3 := Int.emod_lt_of_pos x hy.1
  rw [← h1]
  exact wr_id (by omega) (by omega)
theorem ldv_p {x y : Int} (hx : 0 ≤ x ∧ x < 9223372036854775808) (hy : 0 < y ∧ y < 9223372036854775808) : ldv x y = x / y := by
  unfold ldv
  rw [Int64.toInt_div, wL_def, wL_def, wL_id (x := x) (by omega) (by omega), wL_id (x := y) (by omega) (by omega), Int.tdiv_eq_ediv_of_nonneg hx.1]
  have h1 : 0 ≤ x / y := Int.ediv_nonneg hx.1 (by omega)
  have h2 : x / y ≤ x := Int.ediv_le_self y hx.1
  exact Int.bmod_eq_of_le (by omega) (by omega)
theorem lrm_p {x y : Int} (hx : 0 ≤ x ∧ x < 9223372036854775808) (hy : 0 < y ∧ y < 9223372036854775808) : lrm x y = x % y := by
  unfold lrm
  have e : lI x / lI y = lI (x / y) := by
    have := ldv_p hx hy
    unfold ldv at this
    rw [← this, lI_toInt]
  rw [e, ← lI_mul, ← lI_sub, wL_def]
  have h1 : x % y = x - x / y * y := by have := Int.mul_ediv_add_emod x y; rw [Int.mul_comm] at this; omega
  have h2 := Int.emod_nonneg x (show y ≠ 0 by omega)
  have h3 := Int.emod_lt_of_pos x hy.1
  rw [← h1]
  exact wL_id (by omega) (by omega)
theorem bOr_0 (x : Int) : bOr x 0 = wr x := by
  unfold bOr
  rw [show iI 0 = 0 from rfl, Int32.or_zero, wr_def]
theorem wr_bOr (x y : Int) : wr (bOr x y) = bOr x y := iI_in _
/-! ===== the ROLL ===== -/
theorem g_roll {s : Mem} (h : Inv s) {a b c d : Int} (ha : I32 a) (hb : I32 b) (hc : I32 c) (hd : I32 d) : Ag s (W_ce_roll a b c d) (W_md_roll a b c d) := by
  have wa := ha.w
  have wb := hb.w
  have wc := hc.w
  have wd := hd.w
  have no : ¬ ((1 ≤ a ∧ a ≤ 9999) ∧ (0 ≤ b ∧ b ≤ a) ∧ (1 ≤ c ∧ c ≤ 999) ∧ (0 ≤ d ∧ d ≤ 1)) → W_md_roll a b c d s (fun r2 v => wr (-1) = wr r2 ∧ Inv v) := fun q => by
    refine w_md_roll (b_md_roll_0 (p_in ha.wl (b' := 1) (by decide) (c' := 9999) (by decide) (zt (fun c1 => p_in hb.wl (b' := 0) (by decide) (c' := a) ha.wl (zt (fun c2 => p_in hc.wl (b' := 1) (by decide) (c' := 999) (by decide) (zt (fun c3 => p_in hd.wl (b' := 0) (by decide) (c' := 1) (by decide) (zf (fun c4 => absurd ⟨c1, c2, c3, c4⟩ q) (fun _ => ⟨rfl, h⟩))) (fun _ => ⟨rfl, h⟩))) (fun _ => ⟨rfl, h⟩))) (fun _ => ⟨rfl, h⟩))))
  have mdc : ∀ {Q : Int → Mem → Prop}, (1 ≤ a ∧ a ≤ 9999) → (0 ≤ b ∧ b ≤ a) → (1 ≤ c ∧ c ≤ 999) → (0 ≤ d ∧ d ≤ 1) → T_md_roll_48 Q a b c d s → W_md_roll a b c d s Q := fun c1 c2 c3 c4 t => 
    w_md_roll (b_md_roll_0 (p_in ha.wl (b' := 1) (by decide) (c' := 9999) (by decide) (zt (fun c1 => p_in hb.wl (b' := 0) (by decide) (c' := a) ha.wl (zt (fun c2 => p_in hc.wl (b' := 1) (by decide) (c' := 999) (by decide) (zt (fun c3 => p_in hd.wl (b' := 0) (by decide) (c' := 1) (by decide) (zf (fun c4 => t) (fun z => absurd c4 z))) (fun z => absurd c3 z))) (fun z => absurd c2 z))) (fun z => absurd c1 z))))
  refine w_ce_roll (b_ce_roll_0 (p_within wa (b' := 1) (by decide) (c' := 9999) (by decide) (zt (fun c1 => p_within wb (b' := 0) (by decide) (c' := a) wa (zt (fun c2 => p_within wd (b' := 0) (by decide) (c' := 1) (by decide) (zt (fun c3 => ?_) (fun c3 => ?_))) (fun c2 => ?_))) (fun c1 => ?_))))
  · unfold T_ce_roll_35
    rw [wr_1]
    refine ⟨fun z => absurd z (by decide), fun _ => p_within wc (b' := 1) (by decide) (c' := 999) (by decide) (zf (fun c4 => ?_) (fun c4 => no (fun z => c4 z.2.2.1)))⟩
    unfold T_ce_roll_55
    rw [wa, wb, wc, wd]
    intro x ex
    have g1 : ¬ wL (47700 * c) = 0 := by rw [wL_id (by omega) (by omega)]; omega
    have g2 : ¬ wL (50850 * c) = 0 := by rw [wL_id (by omega) (by omega)]; omega
    refine ⟨fun c5 => ?_, fun c5 => ⟨?_, ?_⟩⟩
    · unfold T_ce_roll_97 T_ce_roll_110
      rw [show 450 * c * 113 = 50850 * c by omega]
      refine ⟨g2, mdc c1 c2 c4 c3 ?_⟩
      unfold T_md_roll_48 T_md_roll_82 T_md_roll_95
      rw [wa, wb, wc, wd]
      intro y ey
      subst ex ey
      exact br_t c5 ⟨g2, by rw [Int.mul_comm], h⟩
    · rw [show 450 * c * 106 = 47700 * c by omega]
      exact g1
    · unfold T_ce_roll_110
      rw [show 450 * c * 106 = 47700 * c by omega]
      refine mdc c1 c2 c4 c3 ?_
      unfold T_md_roll_48 T_md_roll_95
      rw [wa, wb, wc, wd]
      intro y ey
      subst ex ey
      exact br_f c5 ⟨g1, by rw [Int.mul_comm], h⟩
  · exact ⟨fun _ => no (fun z => c3 z.2.2.2), fun z => absurd wr_0 z⟩
  · exact ⟨fun _ => no (fun z => c2 z.2.1), fun z => absurd wr_0 z⟩
  · exact ⟨fun _ => no (fun z => c1 z.1), fun z => absurd wr_0 z⟩
/-! ===== DROPS ===== -/
def drp : Nat → Int → Int → Int → Int
  | 0, _, _, _ => 0
  | n + 1, e, d, m => if e < d then 0 else 1 + drp n (e - (d + m)) d m
theorem drp_lt (n : Nat) {e d m : Int} (h : e < d) : drp n e d m = 0 := by
  cases n with
  | zero => rfl
  | succ n => exact if_pos h
theorem p_sh_dropsOf {o : Nat} {b d e t : Int} {s : Mem} {Q : Int → Mem → Prop} (ho : cls o = 5) (wb : wr b = b) (hb : 0 ≤ b ∧ b < 12) (ee : s o 0 b = e) (et : s o 8 0 = t) (he : 0 ≤ e ∧ e ≤ 480) (ht : 0 ≤ t ∧ t ≤ 8) (hd : 1 ≤ d ∧ d ≤ 80) (h : Q (drp 20 e d t) s) : W_sh_dropsOf o b d s Q := by
  refine w_sh_dropsOf (b_sh_dropsOf_0 ho ?_)
  unfold T_sh_dropsOf_0
  rw [wb, ee]
  refine ⟨hb, ?_⟩
  have loop : ∀ (n : Nat) (i e : Int), i + n = 20 → 0 ≤ i → -1000 ≤ e → e ≤ 480 → Q (i + drp n e d t) s → K_sh_dropsOf_10 Q o d e i s := by
    intro n
    induction n with
    | zero =>
      intro i e hi h0 e0 e1 hq
      refine b_sh_dropsOf_10 ho ?_
      unfold T_sh_dropsOf_10 T_sh_dropsOf_37
      rw [wr_id (x := i) (by omega) (by omega)]
      refine br_t (by omega) ?_
      rw [show i + drp 0 e d t = i from Int.add_zero i] at hq
      exact hq
    | succ n ih =>
      intro i e hi h0 e0 e1 hq
      refine b_sh_dropsOf_10 ho ?_
      unfold T_sh_dropsOf_10 T_sh_dropsOf_37
      rw [wr_id (x := i) (by omega) (by omega), wr_id (x := e) (by omega) (by omega), wr_id (x := d) (by omega) (by omega), et]
      refine br_f (by omega) ⟨fun c => ?_, fun c => ?_⟩
      · rw [drp_lt _ c, Int.add_zero] at hq
        exact hq
      · refine ih (i + 1) (e - (d + t)) (by omega) (by omega) (by omega) (by omega) ?_
        rw [show drp (n + 1) e d t = 1 + drp n (e - (d + t)) d t from if_neg c] at hq
        rw [Int.add_assoc]
        exact hq
  exact loop 20 0 e (by omega) (by omega) (by omega) (by omega) (by rw [Int.zero_add]; exact h)
theorem p_md_dropsOf {b d e t : Int} {s : Mem} {Q : Int → Mem → Prop} (wb : wr b = b) (hb : 0 ≤ b ∧ b < 12) (ee : s 34 3 b = e) (et : s 34 2 2 = t) (he : 0 ≤ e ∧ e ≤ 480) (ht : 0 ≤ t ∧ t ≤ 8) (hd : 1 ≤ d ∧ d ≤ 80) (h : Q (drp 20 e d t) s) : W_md_dropsOf b d s Q := by
  refine w_md_dropsOf (b_md_dropsOf_0 ?_)
  unfold T_md_dropsOf_0
  rw [wb, ee]
  refine ⟨hb, ?_⟩
  have loop : ∀ (n : Nat) (i e : Int), i + n = 20 → 0 ≤ i → 0 ≤ e → e ≤ 480 → Q (i + drp n e d t) s → K_md_dropsOf_10 Q d i e s := by
    intro n
    induction n with
    | zero =>
      intro i e hi h0 e0 e1 hq
      refine b_md_dropsOf_10 ?_
      unfold T_md_dropsOf_10 T_md_dropsOf_46
      rw [wr_id (x := i) (by omega) (by omega)]
      refine br_t (by omega) ?_
      rw [show i + drp 0 e d t = i from Int.add_zero i] at hq
      exact hq
    | succ n ih =>
      intro i e hi h0 e0 e1 hq
      refine b_md_dropsOf_10 ?_
      unfold T_md_dropsOf_10 T_md_dropsOf_46
      rw [wr_id (x := i) (by omega) (by omega), wr_id (x := e) (by omega) (by omega), wr_id (x := d) (by omega) (by omega), et]
      refine br_f (by omega) ⟨fun c => ?_, fun c => ?_⟩
      · rw [drp_lt _ c, Int.add_zero] at hq
        exact hq
      · refine p_md_taken (by omega) (by omega) ?_
        rw [show drp (n + 1) e d t = 1 + drp n (e - (d + t)) d t from if_neg c] at hq
        unfold tkn
        by_cases q : e < d + t
        · rw [if_pos q]
          refine ih (i + 1) (e - e) (by omega) (by omega) (by omega) (by omega) ?_
          rw [drp_lt n (show e - e < d by omega)]
          rw [drp_lt n (show e - (d + t) < d by omega)] at hq
          rw [Int.add_assoc]
          exact hq
        · rw [if_neg q]
          refine ih (i + 1) (e - (d + t)) (by omega) (by omega) (by omega) (by omega) ?_
          rw [Int.add_assoc]
          exact hq
  exact loop 20 0 e (by omega) (by omega) (by omega) (by omega) (by rw [Int.zero_add]; exact h)
theorem g_drops {s : Mem} (h : Inv s) {a b : Int} (ha : I32 a) (hb : I32 b) : Ag s (W_ce_drops a b) (W_md_drops a b) := by
  have wa := ha.w
  have wb := hb.w
  obtain ⟨b1, b2, b3⟩ := Inv_bal h
  obtain ⟨t1, -⟩ := Inv_sca h
  refine w_ce_drops (b_ce_drops_0 (p_sh_has rfl wa b2 b1 (zt (fun c1 => p_within wb (b' := 1) (by decide) (c' := 80) (by decide) (zf (fun c2 => ?_) (fun c2 => ?_))) (fun c1 => ?_))))
  · obtain ⟨⟨e1, e2, e3⟩, -⟩ := b3 a c1.1 c1.2
    exact p_sh_dropsOf rfl wa (by omega) e1 t1.1 (by omega) t1.2 c2 (w_md_drops (b_md_drops_0 (p_md_isBale ha b1 (zt (fun _ => p_in hb.wl (b' := 1) (by decide) (c' := 80) (by decide) (zf (fun _ => p_md_dropsOf wa (by omega) rfl rfl (by omega) t1.2 c2 ⟨rfl, h⟩) (fun z => absurd c2 z))) (fun z => absurd c1 z)))))
  · exact w_md_drops (b_md_drops_0 (p_md_isBale ha b1 (zt (fun _ => p_in hb.wl (b' := 1) (by decide) (c' := 80) (by decide) (zf (fun z => absurd z c2) (fun _ => ⟨rfl, h⟩))) (fun z => absurd c1 z))))
  · exact w_md_drops (b_md_drops_0 (p_md_isBale ha b1 (zt (fun z => absurd z c1) (fun _ => ⟨rfl, h⟩))))
/-- DROPS of a LOT; the set of LOTS -/
def dlS (fl fe : Int → Int) (w d t : Int) : Nat → Int
  | 0 => 0
  | n + 1 => dlS fl fe w d t n + (if fl (n : Int) = w then drp 20 (fe (n : Int)) d t else 0)
theorem dlS_congr {fl fe fl' fe' : Int → Int} {w d t : Int} : ∀ {n : Nat}, (∀ k : Nat, k < n → fl (k : Int) = fl' (k : Int) ∧ fe (k : Int) = fe' (k : Int)) → dlS fl fe w d t n = dlS fl' fe' w d t n
  | 0, _ => rfl
  | n + 1, h => by
    show dlS fl fe w d t n + _ = dlS fl' fe' w d t n + _
    rw [dlS_congr (n := n) (fun k hk => h k (by omega)), (h n (by omega)).1, (h n (by omega)).2]
theorem dlS_1 {fl fe : Int → Int} {w d t i : Int} (hi : 0 ≤ i) : dlS fl fe w d t (i + 1).toNat = dlS fl fe w d t i.toNat + (if fl i = w then drp 20 (fe i) d t else 0) := by
  rw [show (i + 1).toNat = i.toNat + 1 by omega]
  show dlS fl fe w d t i.toNat + (if fl (i.toNat : Int) = w then drp 20 (fe (i.toNat : Int)) d t else 0) = _
  rw [show ((i.toNat : Nat) : Int) = i by omega]
theorem p_sh_dropsOfLot {o : Nat} {w d n t : Int} {s : Mem} {Q : Int → Mem → Prop} (ho : cls o = 5) (en : s o 4 0 = n) (hn : 0 ≤ n ∧ n ≤ 12) (et : s o 8 0 = t) (ht : 0 ≤ t ∧ t ≤ 8) (hd : 1 ≤ d ∧ d ≤ 80) (ww : wr w = w) (hv : ∀ b, 0 ≤ b → b < n → (0 ≤ s o 0 b ∧ s o 0 b ≤ 480) ∧ (0 ≤ s o 2 b ∧ s o 2 b ≤ 9)) (h : Q (dlS (s o 2) (s o 0) w d t n.toNat) s) : W_sh_dropsOfLot o w d s Q := by
  refine w_sh_dropsOfLot (b_sh_dropsOfLot_0 ho ?_)
  have loop : ∀ i : Int, 0 ≤ i → i ≤ n → K_sh_dropsOfLot_5 Q o w d (dlS (s o 2) (s o 0) w d t i.toNat) i s := by
    refine fun i => ind_up (P := fun i => 0 ≤ i → i ≤ n → K_sh_dropsOfLot_5 Q o w d (dlS (s o 2) (s o 0) w d t i.toNat) i s) n (fun i ih h0 h1 => ?_) i
    refine b_sh_dropsOfLot_5 ho ?_
    unfold T_sh_dropsOfLot_5 T_sh_dropsOfLot_35 T_sh_dropsOfLot_41
    rw [en, wr_id (x := n) (by omega) (by omega), wr_id (x := i) (by omega) (by omega)]
    refine ⟨fun c => ?_, fun c => ⟨by omega, ?_⟩⟩
    · have : i = n := by omega
      rw [this]
      exact h
    · have ih := ih (by omega) (by omega) (by omega)
      obtain ⟨v1, v2⟩ := hv i h0 (by omega)
      rw [dlS_1 h0] at ih
      rw [wr_id (x := s o 2 i) (by omega) (by omega), ww]
      refine ⟨fun c2 => ?_, fun c2 => p_sh_dropsOf ho (wr_id (by omega) (by omega)) (by omega) rfl et v1 ht hd ?_⟩
      · rw [if_neg c2, Int.add_zero] at ih
        exact ih
      · rw [if_pos (by omega)] at ih
        exact ih
  exact loop 0 (Int.le_refl _) hn.1
def btS (c : Nat → Bool) : Nat → Int
  | 0 => 0
  | n + 1 => if c n then bOr (btS c n) (bShl 1 (n : Int)) else btS c n
theorem wr_btS (c : Nat → Bool) : ∀ n, wr (btS c n) = btS c n
  | 0 => wr_0
  | n + 1 => by
    show wr (if c n then bOr (btS c n) (bShl 1 (n : Int)) else btS c n) = (if c n then bOr (btS c n) (bShl 1 (n : Int)) else btS c n)
    split
    · exact wr_bOr _ _
    · exact wr_btS c n
theorem drp_bd (d m : Int) : ∀ (n : Nat) (e : Int), 0 ≤ drp n e d m ∧ drp n e d m ≤ n
  | 0, _ => by show 0 ≤ (0 : Int) ∧ (0 : Int) ≤ 0; omega
  | n + 1, e => by
    have := drp_bd d m n (e - (d + m))
    show 0 ≤ (if e < d then 0 else 1 + drp n (e - (d + m)) d m) ∧ (if e < d then 0 else 1 + drp n (e - (d + m)) d m) ≤ _
    split <;> omega
theorem dlS_bd (fl fe : Int → Int) (w d t : Int) : ∀ n : Nat, 0 ≤ dlS fl fe w d t n ∧ dlS fl fe w d t n ≤ 20 * n
  | 0 => by show 0 ≤ (0 : Int) ∧ (0 : Int) ≤ _; omega
  | n + 1 => by
    have h1 := dlS_bd fl fe w d t n
    have h2 := drp_bd d t 20 (fe (n : Int))
    show 0 ≤ dlS fl fe w d t n + (if fl (n : Int) = w then drp 20 (fe (n : Int)) d t else 0) ∧ dlS fl fe w d t n + (if fl (n : Int) = w then drp 20 (fe (n : Int)) d t else 0) ≤ _
    split <;> omega
/-- LOT i has k DROPS -/
def ltC (fl fe : Int → Int) (k d t n : Int) (i : Nat) : Bool := decide (k ≤ dlS fl fe (i : Int) d t n.toNat)
theorem btS_1 (c : Nat → Bool) {i : Int} (hi : 0 ≤ i) : btS c (i + 1).toNat = if c i.toNat then bOr (btS c i.toNat) (bShl 1 i) else btS c i.toNat := by
  rw [show (i + 1).toNat = i.toNat + 1 by omega]
  show (if c i.toNat then bOr (btS c i.toNat) (bShl 1 (i.toNat : Int)) else btS c i.toNat) = _
  rw [show ((i.toNat : Nat) : Int) = i by omega]
theorem p_ce_lots {k d : Int} {s : Mem} {Q : Int → Mem → Prop} (h : Inv s) (hk : 1 ≤ k ∧ k ≤ 20) (hd : 1 ≤ d ∧ d ≤ 80) (hq : Q (btS (ltC (s 34 5) (s 34 3) k d (s 34 2 2) (s 34 2 0)) 10) s) : T_ce_lots_10 Q k d s := by
  obtain ⟨b1, b2, b3⟩ := Inv_bal h
  obtain ⟨t1, -⟩ := Inv_sca h
  have el : ∀ w, dlS (s 3 2) (s 3 0) w d (s 34 2 2) (s 34 2 0).toNat = dlS (s 34 5) (s 34 3) w d (s 34 2 2) (s 34 2 0).toNat := fun w => dlS_congr (fun j hj => ⟨(b3 j (by omega) (by omega)).2.2.1.1, (b3 j (by omega) (by omega)).1.1⟩)
  have loop : ∀ i : Int, 0 ≤ i → i ≤ 10 → K_ce_lots_15 Q k d (btS (ltC (s 34 5) (s 34 3) k d (s 34 2 2) (s 34 2 0)) i.toNat) i s := by
    refine fun i => ind_up (P := fun i => 0 ≤ i → i ≤ 10 → K_ce_lots_15 Q k d (btS (ltC (s 34 5) (s 34 3) k d (s 34 2 2) (s 34 2 0)) i.toNat) i s) 10 (fun i ih h0 h1 => ?_) i
    refine b_ce_lots_15 ?_
    unfold T_ce_lots_15 T_ce_lots_46
    rw [wr_id (x := i) (by omega) (by omega)]
    refine ⟨fun c => ?_, fun c => ?_⟩
    · have : i = 10 := by omega
      rw [this]
      exact hq
    · have ih := ih (by omega) (by omega) (by omega)
      rw [btS_1 _ h0] at ih
      refine p_sh_dropsOfLot rfl b2 b1 t1.1 t1.2 hd (wr_id (by omega) (by omega)) (fun j j0 j1 => ⟨by have := (b3 j j0 j1).1; omega, by have := (b3 j j0 j1).2.2.1; omega⟩) ?_
      have bd := dlS_bd (s 34 5) (s 34 3) i d (s 34 2 2) (s 34 2 0).toNat
      rw [el, wr_id (x := dlS (s 34 5) (s 34 3) i d (s 34 2 2) (s 34 2 0).toNat) (by omega) (by omega), wr_id (x := k) (by omega) (by omega)]
      have ei : ltC (s 34 5) (s 34 3) k d (s 34 2 2) (s 34 2 0) i.toNat = true ↔ k ≤ dlS (s 34 5) (s 34 3) i d (s 34 2 2) (s 34 2 0).toNat := by
        unfold ltC
        rw [show ((i.toNat : Nat) : Int) = i by omega]
        exact decide_eq_true_iff
      refine ⟨fun c2 => ?_, fun c2 => ?_⟩
      · rw [if_neg (fun z => by have := ei.mp z; omega)] at ih
        exact ih
      · rw [if_pos (ei.mpr (by omega))] at ih
        exact ih
  exact loop 0 (by omega) (by omega)
theorem p_md_lots {k d : Int} {s : Mem} {Q : Int → Mem → Prop} (h : Inv s) (hk : 1 ≤ k ∧ k ≤ 20) (hd : 1 ≤ d ∧ d ≤ 80) (hq : Q (btS (ltC (s 34 5) (s 34 3) k d (s 34 2 2) (s 34 2 0)) 10) s) : T_md_lots_26 Q k d s := by
  obtain ⟨b1, b2, b3⟩ := Inv_bal h
  obtain ⟨t1, -⟩ := Inv_sca h
  have loop : ∀ i : Int, 0 ≤ i → i ≤ 10 → K_md_lots_31 Q k d (btS (ltC (s 34 5) (s 34 3) k d (s 34 2 2) (s 34 2 0)) i.toNat) i s := by
    refine fun i => ind_up (P := fun i => 0 ≤ i → i ≤ 10 → K_md_lots_31 Q k d (btS (ltC (s 34 5) (s 34 3) k d (s 34 2 2) (s 34 2 0)) i.toNat) i s) 10 (fun i ih h0 h1 => ?_) i
    refine b_md_lots_31 ?_
    unfold T_md_lots_31
    rw [wr_id (x := i) (by omega) (by omega)]
    refine ⟨fun c => ?_, fun c => ?_⟩
    · have : i = 10 := by omega
      rw [this]
      exact hq
    · have ih := ih (by omega) (by omega) (by omega)
      rw [btS_1 _ h0] at ih
      have bd := dlS_bd (s 34 5) (s 34 3) i d (s 34 2 2) (s 34 2 0).toNat
      have ei : ltC (s 34 5) (s 34 3) k d (s 34 2 2) (s 34 2 0) i.toNat = true ↔ k ≤ dlS (s 34 5) (s 34 3) i d (s 34 2 2) (s 34 2 0).toNat := by
        unfold ltC
        rw [show ((i.toNat : Nat) : Int) = i by omega]
        exact decide_eq_true_iff
      have inner : ∀ b : Int, 0 ≤ b → b ≤ s 34 2 0 → K_md_lots_44 Q k d (btS (ltC (s 34 5) (s 34 3) k d (s 34 2 2) (s 34 2 0)) i.toNat) i (dlS (s 34 5) (s 34 3) i d (s 34 2 2) b.toNat) b s := by
        refine fun b => ind_up (P := fun b => 0 ≤ b → b ≤ s 34 2 0 → K_md_lots_44 Q k d (btS (ltC (s 34 5) (s 34 3) k d (s 34 2 2) (s 34 2 0)) i.toNat) i (dlS (s 34 5) (s 34 3) i d (s 34 2 2) b.toNat) b s) (s 34 2 0) (fun b ihb g0 g1 => ?_) b
        refine b_md_lots_44 ?_
        unfold T_md_lots_44 T_md_lots_89 T_md_lots_103 T_md_lots_104 T_md_lots_79 T_md_lots_80
        rw [wr_id (x := s 34 2 0) (by omega) (by omega), wr_id (x := b) (by omega) (by omega), wr_id (x := i) (by omega) (by omega)]
        refine ⟨fun c2 => ?_, fun c2 => ⟨by omega, ?_⟩⟩
        · have eb : b = s 34 2 0 := by omega
          rw [eb, wr_id (x := dlS (s 34 5) (s 34 3) i d (s 34 2 2) (s 34 2 0).toNat) (by omega) (by omega), wr_id (x := k) (by omega) (by omega)]
          refine ⟨fun c3 => ?_, fun c3 => ?_⟩
          · rw [if_neg (fun z => by have := ei.mp z; omega)] at ih
            rw [bOr_0, wr_btS]
            exact ih
          · rw [if_pos (ei.mpr (by omega))] at ih
            exact ih
        · have ihb := ihb (by omega) (by omega) (by omega)
          rw [dlS_1 g0] at ihb
          have v := b3 b g0 (by omega)
          rw [wr_id (x := s 34 5 b) (by omega) (by omega)]
          refine ⟨fun c3 => ?_, fun c3 => p_md_dropsOf (wr_id (by omega) (by omega)) (by omega) rfl rfl (by omega) t1.2 hd ?_⟩
          · rw [if_neg c3] at ihb
            exact ihb
          · rw [if_pos (by omega)] at ihb
            exact ihb
      exact inner 0 (by omega) (by omega)
  exact loop 0 (by omega) (by omega)
theorem g_lots {s : Mem} (h : Inv s) {a b : Int} (ha : I32 a) (hb : I32 b) : Ag s (W_ce_lots a b) (W_md_lots a b) := by
  have wa := ha.w
  have wb := hb.w
  refine w_ce_lots (b_ce_lots_0 (p_ce_areDrops wa wb (zf (fun c => p_ce_lots h c.1 c.2 ?_) (fun c => ?_))))
  · exact w_md_lots (b_md_lots_0 (p_in ha.wl (b' := 1) (by decide) (c' := 20) (by decide) (zt (fun _ => p_in hb.wl (b' := 1) (by decide) (c' := 80) (by decide) (zf (fun _ => p_md_lots h c.1 c.2 ⟨rfl, h⟩) (fun z => absurd c.2 z))) (fun z => absurd c.1 z))))
  · exact w_md_lots (b_md_lots_0 (p_in ha.wl (b' := 1) (by decide) (c' := 20) (by decide) (zt (fun c1 => p_in hb.wl (b' := 1) (by decide) (c' := 80) (by decide) (zf (fun c2 => absurd ⟨c1, c2⟩ c) (fun _ => ⟨rfl, h⟩))) (fun _ => ⟨rfl, h⟩))))
