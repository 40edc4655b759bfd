/-! ===== sets as bits ===== -/
def mem (x : Nat) : Int → Bool := fun i => decide (0 ≤ i) && Nat.testBit x i.toNat
theorem mem_k {x k : Nat} : mem x (k : Int) = Nat.testBit x k := by
  unfold mem
  rw [decide_eq_true (by omega), Bool.true_and]
  rfl
theorem mem_neg {x : Nat} {i : Int} (h : i < 0) : mem x i = false := by
  unfold mem
  rw [decide_eq_false (by omega), Bool.false_and]
theorem has_dec : ∀ k : Nat, k < 10 → ∀ x : Nat, x < 1024 → bAnd (bShr (x : Int) (k : Int)) 1 = if Nat.testBit x k = true then 1 else 0 := by decide +kernel
theorem less_dec : ∀ k : Nat, k < 10 → ∀ x : Nat, x < 1024 → Nat.testBit x k = true → bAnd (x : Int) (bXor (bShl 1 (k : Int)) (-1)) = ((x ^^^ 2 ^ k : Nat) : Int) ∧ (x ^^^ 2 ^ k) < x := by decide +kernel
theorem shl_dec : ∀ k : Nat, k < 11 → bShl 1 (k : Int) = ((2 ^ k : Nat) : Int) := by decide +kernel
theorem mem_xor {x k : Nat} (h : Nat.testBit x k = true) : mem (x ^^^ 2 ^ k) = um (mem x) (k : Int) := by
  funext i
  by_cases q : i < 0
  · rw [mem_neg q, um_n (by omega), mem_neg q]
  · obtain ⟨j, rfl⟩ : ∃ j : Nat, i = (j : Int) := ⟨i.toNat, by omega⟩
    rw [mem_k, Nat.testBit_xor, Nat.testBit_two_pow]
    by_cases c : j = k
    · subst c
      rw [um_s, h]
      simp
    · rw [um_n (by omega), mem_k]
      have : ¬ k = j := fun z => c z.symm
      simp [this]
theorem p_md_has {x : Nat} {k : Int} {s : Mem} {Q : Int → Mem → Prop} (hx : x < 1024) (hk : 0 ≤ k ∧ k < 10) (h : Q (b2 (mem x k = true)) s) : W_md_has (x : Int) k s Q := by
  obtain ⟨j, rfl⟩ : ∃ j : Nat, k = (j : Int) := ⟨k.toNat, by omega⟩
  refine w_md_has (b_md_has_0 ?_)
  unfold T_md_has_0 T_md_has_13 T_md_has_14
  rw [has_dec j (by omega) x hx]
  rw [mem_k] at h
  by_cases c : Nat.testBit x j = true
  · rw [if_pos c]
    rw [b2_t c] at h
    exact br_f (by decide) ⟨Or.inr rfl, h⟩
  · rw [if_neg c]
    rw [b2_f c] at h
    exact br_t (by decide) ⟨Or.inl rfl, h⟩
theorem mem_top {x n : Nat} (h : x < 2 ^ n) {i : Int} (hi : n ≤ i) : mem x i = false := by
  obtain ⟨j, rfl⟩ : ∃ j : Nat, i = (j : Int) := ⟨i.toNat, by omega⟩
  rw [mem_k]
  exact Nat.testBit_lt_two_pow (Nat.lt_of_lt_of_le h (Nat.pow_le_pow_right (by omega) (by omega)))
theorem mem_0 (i : Int) : mem 0 i = false := by
  unfold mem
  rw [Nat.zero_testBit, Bool.and_false]
theorem mem_z {x : Nat} (h : ∀ i, mem x i = false) : x = 0 := by
  refine Nat.eq_of_testBit_eq (fun i => ?_)
  rw [Nat.zero_testBit, ← mem_k]
  exact h _
theorem mem_full {n : Nat} {i : Int} (h : 0 ≤ i ∧ i < n) : mem (2 ^ n - 1) i = true := by
  obtain ⟨j, rfl⟩ : ∃ j : Nat, i = (j : Int) := ⟨i.toNat, by omega⟩
  rw [mem_k, Nat.testBit_two_pow_sub_one]
  exact decide_eq_true (by omega)
