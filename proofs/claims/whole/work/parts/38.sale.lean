/-! ===== the SALE ===== -/
def LF (pr mo : Int → Int) (L : Int) : Prop := (0 ≤ L ∧ L ≤ 5) ∧ ∀ l, 0 ≤ l → l < L → (1 ≤ pr l ∧ pr l ≤ 99) ∧ (0 ≤ mo l ∧ mo l ≤ 99)
/-- what is left of x behind a week at LEVEL l -/
def rstS (mo : Int → Int) (lo l x : Int) : Int := (x - min x (mo l)) - (x - min x (mo l)) * lo / 100
def cB (pr mo : Int → Int) (lo : Int) (F : Int → Int → Int) (l x : Int) : Int := pr l * min x (mo l) + F l (rstS mo lo l x)
def bw (pr mo : Int → Int) (lo L : Int) (F : Int → Int → Int) (x : Int) : Nat → Int
  | 0 => 0
  | n + 1 => max (bw pr mo lo L F x n) (cB pr mo lo F (L - 1 - (n : Int)) x)
def FW (pr mo : Int → Int) (lo L : Int) : Nat → Int → Int → Int
  | 0 => fun _ _ => 0
  | w + 1 => fun l x => bw pr mo lo L (FW pr mo lo L w) x (L - l).toNat
def Fbd (F : Int → Int → Int) : Prop := ∀ l x, 0 ≤ x → 0 ≤ F l x ∧ F l x ≤ 99 * x
theorem rst_bd {mo : Int → Int} {lo l x : Int} (hm : 0 ≤ mo l) (hx : 0 ≤ x) (hl : 0 ≤ lo ∧ lo ≤ 50) : (0 ≤ (x - min x (mo l)) * lo ∧ (x - min x (mo l)) * lo ≤ (x - min x (mo l)) * 50) ∧ 0 ≤ rstS mo lo l x ∧ rstS mo lo l x ≤ x - min x (mo l) := by
  have h1 : 0 ≤ x - min x (mo l) := by omega
  have h2 : (x - min x (mo l)) * lo ≤ (x - min x (mo l)) * 50 := Int.mul_le_mul_of_nonneg_left hl.2 h1
  have h3 : 0 ≤ (x - min x (mo l)) * lo := Int.mul_nonneg h1 hl.1
  unfold rstS
  omega
theorem cB_bd {pr mo : Int → Int} {lo L l x : Int} {F : Int → Int → Int} (h : LF pr mo L) (hF : Fbd F) (hl : 0 ≤ l ∧ l < L) (hx : 0 ≤ x) (hlo : 0 ≤ lo ∧ lo ≤ 50) : 0 ≤ cB pr mo lo F l x ∧ cB pr mo lo F l x ≤ 99 * x := by
  obtain ⟨v1, v2⟩ := h.2 l hl.1 hl.2
  obtain ⟨-, r1, r2⟩ := rst_bd (mo := mo) (l := l) v2.1 hx hlo
  have f := hF l _ r1
  have m0 : 0 ≤ min x (mo l) := by omega
  have m1 : pr l * min x (mo l) ≤ 99 * min x (mo l) := Int.mul_le_mul_of_nonneg_right v1.2 m0
  have m2 : 0 ≤ pr l * min x (mo l) := Int.mul_nonneg (by omega) m0
  unfold cB
  omega
theorem bw_bd {pr mo : Int → Int} {lo L x : Int} {F : Int → Int → Int} (h : LF pr mo L) (hF : Fbd F) (hx : 0 ≤ x) (hlo : 0 ≤ lo ∧ lo ≤ 50) : ∀ n : Nat, (n : Int) ≤ L → 0 ≤ bw pr mo lo L F x n ∧ bw pr mo lo L F x n ≤ 99 * x
  | 0, _ => by show 0 ≤ (0 : Int) ∧ (0 : Int) ≤ _; omega
  | n + 1, hn => by
    have h1 := bw_bd h hF hx hlo n (by omega)
    have h2 := cB_bd (l := L - 1 - (n : Int)) h hF (by omega) hx hlo
    show 0 ≤ max (bw pr mo lo L F x n) (cB pr mo lo F (L - 1 - (n : Int)) x) ∧ max (bw pr mo lo L F x n) (cB pr mo lo F (L - 1 - (n : Int)) x) ≤ _
    omega
/-- only LEVELS that are told are looked at -/
def FbL (L : Int) (F : Int → Int → Int) : Prop := ∀ l x, 0 ≤ l → l < L → 0 ≤ x → 0 ≤ F l x ∧ F l x ≤ 99 * x
theorem cB_bL {pr mo : Int → Int} {lo L l x : Int} {F : Int → Int → Int} (h : LF pr mo L) (hF : FbL L F) (hl : 0 ≤ l ∧ l < L) (hx : 0 ≤ x) (hlo : 0 ≤ lo ∧ lo ≤ 50) : (0 ≤ cB pr mo lo F l x ∧ cB pr mo lo F l x ≤ 99 * x) := by
  obtain ⟨v1, v2⟩ := h.2 l hl.1 hl.2
  obtain ⟨-, r1, r2⟩ := rst_bd (mo := mo) (l := l) v2.1 hx hlo
  have f := hF l _ hl.1 hl.2 r1
  have m0 : 0 ≤ min x (mo l) := by omega
  have m1 : pr l * min x (mo l) ≤ 99 * min x (mo l) := Int.mul_le_mul_of_nonneg_right v1.2 m0
  have m2 : 0 ≤ pr l * min x (mo l) := Int.mul_nonneg (by omega) m0
  unfold cB
  omega
theorem bw_bL {pr mo : Int → Int} {lo L x : Int} {F : Int → Int → Int} (h : LF pr mo L) (hF : FbL L F) (hx : 0 ≤ x) (hlo : 0 ≤ lo ∧ lo ≤ 50) : ∀ n : Nat, (n : Int) ≤ L → 0 ≤ bw pr mo lo L F x n ∧ bw pr mo lo L F x n ≤ 99 * x
  | 0, _ => by show 0 ≤ (0 : Int) ∧ (0 : Int) ≤ _; omega
  | n + 1, hn => by
    have h1 := bw_bL h hF hx hlo n (by omega)
    have h2 := cB_bL (l := L - 1 - (n : Int)) h hF (by omega) hx hlo
    show 0 ≤ max (bw pr mo lo L F x n) (cB pr mo lo F (L - 1 - (n : Int)) x) ∧ max (bw pr mo lo L F x n) (cB pr mo lo F (L - 1 - (n : Int)) x) ≤ _
    omega
theorem FW_bL {pr mo : Int → Int} {lo L : Int} (h : LF pr mo L) (hlo : 0 ≤ lo ∧ lo ≤ 50) : ∀ w, FbL L (FW pr mo lo L w)
  | 0 => fun l x _ _ hx => by show 0 ≤ (0 : Int) ∧ (0 : Int) ≤ _; omega
  | w + 1 => fun l x h0 h1 hx => bw_bL h (FW_bL h hlo w) hx hlo (L - l).toNat (by omega)
/-- the best first LEVEL -/
def msx (pr mo : Int → Int) (lo : Int) (F : Int → Int → Int) (E f0 : Int) : Nat → Int × Int
  | 0 => (-1, f0)
  | n + 1 => if (msx pr mo lo F E f0 n).1 < cB pr mo lo F (n : Int) E then (cB pr mo lo F (n : Int) E, (n : Int)) else msx pr mo lo F E f0 n
theorem msx_f {pr mo : Int → Int} {lo : Int} {F : Int → Int → Int} {E f0 f1 : Int} (h0 : 0 ≤ cB pr mo lo F 0 E) : ∀ n : Nat, msx pr mo lo F E f0 (n + 1) = msx pr mo lo F E f1 (n + 1)
  | 0 => by
    show (if (-1 : Int) < cB pr mo lo F ((0 : Nat) : Int) E then (cB pr mo lo F ((0 : Nat) : Int) E, ((0 : Nat) : Int)) else (-1, f0)) = (if (-1 : Int) < cB pr mo lo F ((0 : Nat) : Int) E then (cB pr mo lo F ((0 : Nat) : Int) E, ((0 : Nat) : Int)) else (-1, f1))
    have e : ((0 : Nat) : Int) = 0 := rfl
    rw [e, if_pos (by omega), if_pos (by omega)]
  | n + 1 => by
    have ih := msx_f (f0 := f0) (f1 := f1) h0 n
    show (if (msx pr mo lo F E f0 (n + 1)).1 < _ then _ else msx pr mo lo F E f0 (n + 1)) = (if (msx pr mo lo F E f1 (n + 1)).1 < _ then _ else msx pr mo lo F E f1 (n + 1))
    rw [ih]
theorem msx_bd {pr mo : Int → Int} {lo L : Int} {F : Int → Int → Int} {E f0 : Int} (h : LF pr mo L) (hF : FbL L F) (hE : 0 ≤ E) (hlo : 0 ≤ lo ∧ lo ≤ 50) : ∀ n : Nat, (n : Int) ≤ L → -1 ≤ (msx pr mo lo F E f0 n).1 ∧ (msx pr mo lo F E f0 n).1 ≤ 99 * E
  | 0, _ => by show -1 ≤ (-1 : Int) ∧ (-1 : Int) ≤ _; omega
  | n + 1, hn => by
    have h1 := msx_bd (f0 := f0) h hF hE hlo n (by omega)
    have h2 := cB_bL (l := (n : Int)) h hF (by omega) hE hlo
    by_cases c : (msx pr mo lo F E f0 n).1 < cB pr mo lo F (n : Int) E
    · rw [show msx pr mo lo F E f0 (n + 1) = (cB pr mo lo F (n : Int) E, (n : Int)) from if_pos c]
      show -1 ≤ cB pr mo lo F (n : Int) E ∧ cB pr mo lo F (n : Int) E ≤ _
      omega
    · rw [show msx pr mo lo F E f0 (n + 1) = msx pr mo lo F E f0 n from if_neg c]
      exact h1
theorem p_sp_coinsBy {l x lo L : Int} {F : Int → Int → Int} {s : Mem} {Q : Int → Mem → Prop} (h : LF (s 4 3) (s 4 4) L) (hl : 0 ≤ l ∧ l < L) (hx : 0 ≤ x ∧ x ≤ 480) (hlo : 0 ≤ lo ∧ lo ≤ 50) (el : s 27 1 0 = lo) (hT : ∀ y, 0 ≤ y → y ≤ x → s 27 0 (l * 481 + y) = F l y) (hq : Q (cB (s 4 3) (s 4 4) lo F l x) s) : W_sp_coinsBy 4 l x s Q := by
  obtain ⟨v1, v2⟩ := h.2 l hl.1 hl.2
  have h5 := h.1
  obtain ⟨p, r1, r2⟩ := rst_bd (mo := s 4 4) (l := l) v2.1 hx.1 hlo
  refine w_sp_coinsBy (b_sp_coinsBy_0 rfl ?_)
  unfold T_sp_coinsBy_0
  rw [el, wr_id (x := l) (by omega) (by omega), wr_id (x := x) (by omega) (by omega), wr_id (x := s 4 4 l) (by omega) (by omega)]
  refine ⟨by omega, ?_⟩
  rintro x1 rfl
  have ed := idv_p (x := (x - min x (s 4 4 l)) * lo) (y := 100) (by omega) (by omega)
  rw [ed]
  rintro x2 e2
  have e3 : x2 = rstS (s 4 4) lo l x := e2
  rw [wr_id (x := l * 481 + x2) (by omega) (by omega), e3, hT _ r1 (by omega)]
  exact ⟨by omega, by omega, hq⟩
theorem bw_1 {pr mo : Int → Int} {lo L x j : Int} {F : Int → Int → Int} (hj : 0 ≤ j ∧ j < L) : bw pr mo lo L F x (L - j).toNat = max (bw pr mo lo L F x (L - 1 - j).toNat) (cB pr mo lo F j x) := by
  rw [show (L - j).toNat = (L - 1 - j).toNat + 1 by omega]
  show max (bw pr mo lo L F x (L - 1 - j).toNat) (cB pr mo lo F (L - 1 - ((L - 1 - j).toNat : Int)) x) = _
  rw [show L - 1 - ((L - 1 - j).toNat : Int) = j by omega]
theorem p_sp_addWeek {E lo L : Int} {F : Int → Int → Int} {s : Mem} {Q : Mem → Prop} (h : LF (s 4 3) (s 4 4) L) (eL : s 4 5 0 = L) (hE : 0 ≤ E ∧ E ≤ 480) (hlo : 0 ≤ lo ∧ lo ≤ 50) (el : s 27 1 0 = lo) (hF : FbL L F) (hT : ∀ l x, 0 ≤ l → l < L → 0 ≤ x → x ≤ E → s 27 0 (l * 481 + x) = F l x)
    (hq : ∀ t, FrJ 27 (fun j => j = 0) s t → (∀ l x, 0 ≤ l → l < L → 0 ≤ x → x ≤ E → t 27 0 (l * 481 + x) = bw (s 4 3) (s 4 4) lo L F x (L - l).toNat) → Q t) : W_sp_addWeek 4 E s Q := by
  have h5 := h.1
  refine w_sp_addWeek (b_sp_addWeek_0 rfl ?_)
  unfold T_sp_addWeek_0
  have outer : ∀ i : Int, ∀ t, -1 ≤ i → i ≤ E → FrJ 27 (fun j => j = 0) s t → (∀ l x, 0 ≤ l → l < L → 0 ≤ x → x ≤ i → t 27 0 (l * 481 + x) = F l x) → (∀ l x, 0 ≤ l → l < L → i < x → x ≤ E → t 27 0 (l * 481 + x) = bw (s 4 3) (s 4 4) lo L F x (L - l).toNat) → K_sp_addWeek_2 Q 4 i t := by
    refine fun i => ind_dn (P := fun i => ∀ t, -1 ≤ i → i ≤ E → FrJ 27 (fun j => j = 0) s t → (∀ l x, 0 ≤ l → l < L → 0 ≤ x → x ≤ i → t 27 0 (l * 481 + x) = F l x) → (∀ l x, 0 ≤ l → l < L → i < x → x ≤ E → t 27 0 (l * 481 + x) = bw (s 4 3) (s 4 4) lo L F x (L - l).toNat) → K_sp_addWeek_2 Q 4 i t) (-1) (fun i ih t h0 h1 hFt lo1 hi1 => ?_) i
    refine b_sp_addWeek_2 rfl ?_
    unfold T_sp_addWeek_2 T_sp_addWeek_64
    rw [wr_id (x := i) (by omega) (by omega)]
    refine ⟨fun c => hq t hFt (fun l x l0 l1 x0 x1 => hi1 l x l0 l1 (by omega) x1), fun c => ?_⟩
    have inner : ∀ j : Int, ∀ u, -1 ≤ j → j < L → FrJ 27 (fun j => j = 0) s u → (∀ l x, 0 ≤ l → l < L → 0 ≤ x → x < i → u 27 0 (l * 481 + x) = F l x) → (∀ l x, 0 ≤ l → l < L → i < x → x ≤ E → u 27 0 (l * 481 + x) = bw (s 4 3) (s 4 4) lo L F x (L - l).toNat) → (∀ l, 0 ≤ l → l ≤ j → u 27 0 (l * 481 + i) = F l i) → (∀ l, j < l → l < L → 0 ≤ l → u 27 0 (l * 481 + i) = bw (s 4 3) (s 4 4) lo L F i (L - l).toNat) → K_sp_addWeek_17 Q 4 i (bw (s 4 3) (s 4 4) lo L F i (L - 1 - j).toNat) j u := by
      refine fun j => ind_dn (P := fun j => ∀ u, -1 ≤ j → j < L → FrJ 27 (fun j => j = 0) s u → (∀ l x, 0 ≤ l → l < L → 0 ≤ x → x < i → u 27 0 (l * 481 + x) = F l x) → (∀ l x, 0 ≤ l → l < L → i < x → x ≤ E → u 27 0 (l * 481 + x) = bw (s 4 3) (s 4 4) lo L F x (L - l).toNat) → (∀ l, 0 ≤ l → l ≤ j → u 27 0 (l * 481 + i) = F l i) → (∀ l, j < l → l < L → 0 ≤ l → u 27 0 (l * 481 + i) = bw (s 4 3) (s 4 4) lo L F i (L - l).toNat) → K_sp_addWeek_17 Q 4 i (bw (s 4 3) (s 4 4) lo L F i (L - 1 - j).toNat) j u) (-1) (fun j ihj u j0 j1 hFu a1 a2 a3 a4 => ?_) j
      refine b_sp_addWeek_17 rfl ?_
      unfold T_sp_addWeek_17 T_sp_addWeek_58
      rw [wr_id (x := j) (by omega) (by omega)]
      refine ⟨fun c2 => ?_, fun c2 => ?_⟩
      · exact ih (by omega) u (by omega) (by omega) hFu (fun l x l0 l1 x0 x1 => a1 l x l0 l1 x0 (by omega)) (fun l x l0 l1 x0 x1 => by
          by_cases q : x = i
          · subst q
            exact a4 l (by omega) l1 l0
          · exact a2 l x l0 l1 (by omega) x1)
      · have e4 : u 4 = s 4 := hFu.1 4 (by omega)
        have b1 := bw_bL h hF (show 0 ≤ i by omega) hlo (L - 1 - j).toNat (by omega)
        have b2 := cB_bL (l := j) h hF (by omega) (show 0 ≤ i by omega) hlo
        refine p_sp_coinsBy (F := F) (L := L) (lo := lo) (by rw [e4]; exact h) (by omega) (by omega) hlo (by rw [hFu.2 1 (by omega)]; exact el) (fun y y0 y1 => ?_) ?_
        · by_cases q : y = i
          · subst q
            exact a3 j (by omega) (by omega)
          · exact a1 j y (by omega) j1 y0 (by omega)
        · rw [e4]
          show (0 ≤ wr (j * 481 + i) ∧ wr (j * 481 + i) < 2405) ∧ ∀ s4, s4 = updM u 27 0 (wr (j * 481 + i)) (max (wr (bw (s 4 3) (s 4 4) lo L F i (L - 1 - j).toNat)) (wr (cB (s 4 3) (s 4 4) lo F j i))) → K_sp_addWeek_17 Q 4 i (max (wr (bw (s 4 3) (s 4 4) lo L F i (L - 1 - j).toNat)) (wr (cB (s 4 3) (s 4 4) lo F j i))) (j - 1) s4
          rw [wr_id (x := j * 481 + i) (by omega) (by omega), wr_id (x := bw (s 4 3) (s 4 4) lo L F i (L - 1 - j).toNat) (by omega) (by omega), wr_id (x := cB (s 4 3) (s 4 4) lo F j i) (by omega) (by omega), ← bw_1 (by omega)]
          refine ⟨by omega, fun s4 x4 => ?_⟩
          obtain ⟨d1, d2, d3⟩ := updM_f x4
          have ihj := ihj (by omega) s4 (by omega) (by omega) (hFu.tr ⟨d1, fun j q => d2 j q⟩) (fun l x l0 l1 x0 x1 => by rw [d3, uA_n _ (by omega)]; exact a1 l x l0 l1 x0 x1) (fun l x l0 l1 x0 x1 => by rw [d3, uA_n _ (by omega)]; exact a2 l x l0 l1 x0 x1) (fun l l0 l1 => by rw [d3, uA_n _ (by omega)]; exact a3 l l0 (by omega)) (fun l l0 l1 l2 => by
            rw [d3]
            by_cases q : l = j
            · subst q
              rw [uA_s]
            · rw [uA_n _ (by omega)]
              exact a4 l (by omega) l1 l2)
          rw [show L - 1 - (j - 1) = L - j by omega] at ihj
          exact ihj
    have e5 : t 4 5 0 = L := by rw [hFt.1 4 (by omega), eL]
    rw [e5]
    have := inner (L - 1) t (by omega) (by omega) hFt (fun l x l0 l1 x0 x1 => lo1 l x l0 l1 x0 (by omega)) hi1 (fun l l0 l1 => lo1 l i l0 (by omega) (by omega) (by omega)) (fun l l0 l1 l2 => by omega)
    rw [show (L - 1 - (L - 1)).toNat = 0 by omega] at this
    exact this
  exact outer E s (by omega) (by omega) FrJ.rf (fun l x l0 l1 x0 x1 => hT l x l0 l1 x0 x1) (fun l x l0 l1 x0 x1 => by omega)
