/-! ===== sets within sets ===== -/
theorem bAnd_nat {x y : Nat} (hx : x < 2147483648) (hy : y < 2147483648) : bAnd (x : Int) (y : Int) = ((x &&& y : Nat) : Int) := by
  unfold bAnd
  have e : ∀ z : Nat, z < 2147483648 → (iI (z : Int)).toBitVec.toNat = z := fun z hz => by
    have := iI_nat (z : Int)
    rw [wr_id (by omega) (by omega)] at this
    have e2 : (iI (z : Int)).toUInt32.toNat = (iI (z : Int)).toBitVec.toNat := rfl
    have h2 := (iI (z : Int)).toBitVec.isLt
    omega
  have hle : x &&& y ≤ x := Nat.and_le_left
  show (iI (x : Int) &&& iI (y : Int)).toBitVec.toInt = _
  rw [BitVec.toInt_eq_toNat_cond, Int32.toBitVec_and, BitVec.toNat_and, e x hx, e y hy, if_pos (by omega)]
/-- a is within x -/
def sub (a x : Nat) : Prop := ∀ k, Nat.testBit a k = true → Nat.testBit x k = true
theorem sub_and {a x : Nat} (h : sub a x) : a &&& x = a := by
  refine Nat.eq_of_testBit_eq (fun i => ?_)
  rw [Nat.testBit_and]
  cases q : Nat.testBit a i with
  | false => rfl
  | true => rw [h i q]; rfl
theorem and_sub (a x : Nat) : sub (a &&& x) x := fun k h => by
  rw [Nat.testBit_and, Bool.and_eq_true] at h
  exact h.2
theorem sub_rf (x : Nat) : sub x x := fun _ h => h
theorem xor_tb {a x : Nat} (h : sub a x) (k : Nat) : Nat.testBit (x ^^^ a) k = (Nat.testBit x k && !(Nat.testBit a k)) := by
  rw [Nat.testBit_xor]
  cases q : Nat.testBit a k with
  | false => simp
  | true => rw [h k q]; rfl
theorem xor_add {x : Nat} : ∀ {a : Nat}, a &&& x = a → (x ^^^ a) + a = x := by
  induction x using Nat.strongRecOn with
  | ind x ih =>
    intro a h
    by_cases q : x = 0
    · subst q
      rw [Nat.and_zero] at h
      subst h
      rfl
    · have h2 : a / 2 &&& x / 2 = a / 2 := by rw [← Nat.and_div_two, h]
      have h3 := ih (x / 2) (by omega) h2
      have h4 : (x ^^^ a) / 2 = x / 2 ^^^ a / 2 := Nat.xor_div_two
      have h5 : (x ^^^ a) % 2 = (x + a) % 2 := by
        have t : Nat.testBit (x ^^^ a) 0 = (Nat.testBit x 0 ^^ Nat.testBit a 0) := Nat.testBit_xor ..
        rw [Nat.testBit_zero, Nat.testBit_zero, Nat.testBit_zero] at t
        by_cases c1 : x % 2 = 1
        · by_cases c2 : a % 2 = 1
          · rw [decide_eq_true c1, decide_eq_true c2] at t
            have := decide_eq_false_iff_not.mp t
            omega
          · rw [decide_eq_true c1, decide_eq_false c2] at t
            have := decide_eq_true_iff.mp t
            omega
        · by_cases c2 : a % 2 = 1
          · rw [decide_eq_false c1, decide_eq_true c2] at t
            have := decide_eq_true_iff.mp t
            omega
          · rw [decide_eq_false c1, decide_eq_false c2] at t
            have := decide_eq_false_iff_not.mp t
            omega
      have h6 : a % 2 = 1 → x % 2 = 1 := fun z => by
        have t1 : Nat.testBit (a &&& x) 0 = true := by rw [h, Nat.testBit_zero]; exact decide_eq_true z
        rw [Nat.testBit_and, Bool.and_eq_true, Nat.testBit_zero, Nat.testBit_zero] at t1
        exact decide_eq_true_iff.mp t1.2
      omega
theorem sub_le {a x : Nat} (h : sub a x) : a ≤ x ∧ ((x - a : Nat) : Int) = (x : Int) - (a : Int) ∧ x ^^^ a = x - a := by
  have := xor_add (sub_and h)
  omega
theorem bXor_m1 (y : Int) : (iI y ^^^ iI (-1)).toBitVec = ~~~ (iI y).toBitVec := by
  rw [Int32.toBitVec_xor]
  have : (iI (-1)).toBitVec = BitVec.allOnes 32 := by decide
  rw [this, BitVec.xor_allOnes]
/-- the others -/
theorem less_sub {a x : Nat} (h : sub a x) (hx : x < 2147483648) : bAnd (x : Int) (bXor (a : Int) (-1)) = ((x ^^^ a : Nat) : Int) := by
  obtain ⟨s1, s2, s3⟩ := sub_le h
  have e : ∀ z : Nat, z < 2147483648 → (iI (z : Int)).toBitVec = BitVec.ofNat 32 z := fun z hz => by
    refine BitVec.eq_of_toNat_eq ?_
    have := iI_nat (z : Int)
    rw [wr_id (by omega) (by omega)] at this
    have e2 : (iI (z : Int)).toUInt32.toNat = (iI (z : Int)).toBitVec.toNat := rfl
    rw [BitVec.toNat_ofNat, Nat.mod_eq_of_lt (by omega)]
    omega
  unfold bAnd bXor
  rw [iI_toInt]
  show (iI (x : Int) &&& (iI (a : Int) ^^^ iI (-1))).toBitVec.toInt = _
  have e3 : (iI (x : Int) &&& (iI (a : Int) ^^^ iI (-1))).toBitVec = BitVec.ofNat 32 (x ^^^ a) := by
    rw [Int32.toBitVec_and, bXor_m1, e x hx, e a (by omega)]
    refine BitVec.eq_of_getLsbD_eq (fun i hi => ?_)
    rw [BitVec.getLsbD_and, BitVec.getLsbD_not, BitVec.getLsbD_ofNat, BitVec.getLsbD_ofNat, BitVec.getLsbD_ofNat, xor_tb h]
    simp [hi]
  rw [e3, BitVec.toInt_eq_toNat_cond, BitVec.toNat_ofNat, Nat.mod_eq_of_lt (by omega), if_pos (by omega)]
/-- how many bits -/
def pcn (x : Nat) : Nat → Nat
  | 0 => 0
  | n + 1 => pcn x n + (if Nat.testBit x n = true then 1 else 0)
theorem pcn_le (x : Nat) : ∀ n, pcn x n ≤ n
  | 0 => Nat.le_refl _
  | n + 1 => by
    have := pcn_le x n
    unfold pcn
    split <;> omega
theorem pcn_sub {a x : Nat} (h : sub a x) : ∀ n, pcn x n = pcn a n + pcn (x ^^^ a) n
  | 0 => rfl
  | n + 1 => by
    have ih := pcn_sub h n
    unfold pcn
    rw [xor_tb h]
    cases q : Nat.testBit a n with
    | false =>
      cases q2 : Nat.testBit x n with
      | false => simp; omega
      | true => simp; omega
    | true =>
      rw [h n q]
      simp; omega
theorem pcn_pos {x : Nat} : ∀ n, 0 < x → x < 2 ^ n → 1 ≤ pcn x n
  | 0, h, h2 => by omega
  | n + 1, h, h2 => by
    unfold pcn
    by_cases q : Nat.testBit x n = true
    · rw [if_pos q]; omega
    · have : x < 2 ^ n := by
        refine Decidable.byContradiction fun z => q ?_
        refine Nat.testBit_of_two_pow_le_and_two_pow_add_one_gt (by omega) h2
      have := pcn_pos n h this
      omega
/-- the sum of what stands at the bits -/
def smB (f : Int → Int) (x : Nat) : Nat → Int
  | 0 => 0
  | n + 1 => smB f x n + (if Nat.testBit x n = true then f (n : Int) else 0)
theorem smB_c {f : Int → Int} {x y : Nat} : ∀ n : Nat, (∀ k, k < n → Nat.testBit x k = Nat.testBit y k) → smB f x n = smB f y n
  | 0, _ => rfl
  | n + 1, h => by
    show smB f x n + _ = smB f y n + _
    rw [smB_c n (fun k hk => h k (by omega)), h n (by omega)]
theorem smB_f {f g : Int → Int} {x : Nat} : ∀ n : Nat, (∀ k : Nat, k < n → f (k : Int) = g (k : Int)) → smB f x n = smB g x n
  | 0, _ => rfl
  | n + 1, h => by
    show smB f x n + (if Nat.testBit x n = true then f (n : Int) else 0) = smB g x n + (if Nat.testBit x n = true then g (n : Int) else 0)
    rw [smB_f n (fun k hk => h k (by omega)), h n (by omega)]
theorem smB_top {f : Int → Int} {x n : Nat} (hx : x < 2 ^ n) : ∀ m : Nat, n ≤ m → smB f x m = smB f x n := by
  intro m hm
  obtain ⟨d, rfl⟩ : ∃ d, m = n + d := ⟨m - n, by omega⟩
  induction d with
  | zero => rfl
  | succ d ih =>
    show smB f x (n + d) + (if Nat.testBit x (n + d) = true then f ((n + d : Nat) : Int) else 0) = _
    rw [ih (by omega), if_neg ?_, Int.add_zero]
    rw [Nat.testBit_lt_two_pow (Nat.lt_of_lt_of_le hx (Nat.pow_le_pow_right (by omega) (by omega)))]
    decide
theorem smB_bd {f : Int → Int} {x : Nat} : ∀ n : Nat, (∀ k : Nat, k < n → 1 ≤ f (k : Int) ∧ f (k : Int) ≤ 480) → (pcn x n : Int) ≤ smB f x n ∧ smB f x n ≤ 480 * (n : Int)
  | 0, _ => ⟨Int.le_refl _, Int.le_refl _⟩
  | n + 1, h => by
    have h1 := smB_bd (f := f) (x := x) n (fun k hk => h k (by omega))
    have h2 := h n (by omega)
    show ((pcn x n + (if Nat.testBit x n = true then 1 else 0) : Nat) : Int) ≤ smB f x n + (if Nat.testBit x n = true then f (n : Int) else 0) ∧ smB f x n + (if Nat.testBit x n = true then f (n : Int) else 0) ≤ _
    split <;> omega
def bcI (a : Int) : Int := bAnd (bAnd (bAnd (a - bAnd (bUsh a 1) 1431655765) 858993459 + bAnd (bUsh (a - bAnd (bUsh a 1) 1431655765) 2) 858993459 + bUsh (bAnd (a - bAnd (bUsh a 1) 1431655765) 858993459 + bAnd (bUsh (a - bAnd (bUsh a 1) 1431655765) 2) 858993459) 4) 252645135 + bUsh (bAnd (bAnd (a - bAnd (bUsh a 1) 1431655765) 858993459 + bAnd (bUsh (a - bAnd (bUsh a 1) 1431655765) 2) 858993459 + bUsh (bAnd (a - bAnd (bUsh a 1) 1431655765) 858993459 + bAnd (bUsh (a - bAnd (bUsh a 1) 1431655765) 2) 858993459) 4) 252645135) 8 + bUsh (bAnd (bAnd (a - bAnd (bUsh a 1) 1431655765) 858993459 + bAnd (bUsh (a - bAnd (bUsh a 1) 1431655765) 2) 858993459 + bUsh (bAnd (a - bAnd (bUsh a 1) 1431655765) 858993459 + bAnd (bUsh (a - bAnd (bUsh a 1) 1431655765) 2) 858993459) 4) 252645135 + bUsh (bAnd (bAnd (a - bAnd (bUsh a 1) 1431655765) 858993459 + bAnd (bUsh (a - bAnd (bUsh a 1) 1431655765) 2) 858993459 + bUsh (bAnd (a - bAnd (bUsh a 1) 1431655765) 858993459 + bAnd (bUsh (a - bAnd (bUsh a 1) 1431655765) 2) 858993459) 4) 252645135) 8) 16) 63
theorem bc_dec : ∀ x : Nat, x < 512 → bcI (x : Int) = ((pcn x 9 : Nat) : Int) := by decide +kernel
theorem p_ji_bitCount {x : Nat} {s : Mem} {Q : Int → Mem → Prop} (hx : x < 512) (h : Q ((pcn x 9 : Nat) : Int) s) : W_ji_bitCount (x : Int) s Q := by
  refine w_ji_bitCount (b_ji_bitCount_0 ?_)
  unfold T_ji_bitCount_0
  intro x1 e1 x2 e2 x3 e3 x4 e4
  subst e1
  subst e2
  subst e3
  subst e4
  rw [← bc_dec x hx] at h
  exact h
