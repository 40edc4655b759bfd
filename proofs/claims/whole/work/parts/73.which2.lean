/-! ===== WHICH: the fraction in lowest terms ===== -/
def gcE : Nat → Int → Int → Int
  | 0, a, _ => a
  | n + 1, a, b => if b = 0 then a else gcE n b (a % b)
theorem gcE_st : ∀ (n : Nat) (a b : Int), 0 ≤ a → 0 ≤ b → ∀ k, b < 2 ^ k → 2 * k + 1 ≤ n → ∀ N, n ≤ N → gcE N a b = gcE n a b
  | 0, _, _, _, _, k, _, h, _, _ => by omega
  | n + 1, a, b, ha, hb, k, hk, h, N, hN => by
    obtain ⟨N, rfl⟩ : ∃ M, N = M + 1 := ⟨N - 1, by omega⟩
    show (if b = 0 then a else gcE N b (a % b)) = (if b = 0 then a else gcE n b (a % b))
    by_cases q : b = 0
    · rw [if_pos q, if_pos q]
    · rw [if_neg q, if_neg q]
      have r0 := Int.emod_nonneg a q
      have r1 := Int.emod_lt_of_pos a (show 0 < b by omega)
      generalize a % b = r at r0 r1
      cases k with
      | zero =>
        have : (2 : Int) ^ 0 = 1 := Int.pow_zero _
        omega
      | succ k =>
        obtain ⟨n, rfl⟩ : ∃ M, n = M + 1 := ⟨n - 1, by omega⟩
        obtain ⟨N, rfl⟩ : ∃ M, N = M + 1 := ⟨N - 1, by omega⟩
        show (if r = 0 then b else gcE N r (b % r)) = (if r = 0 then b else gcE n r (b % r))
        by_cases q2 : r = 0
        · rw [if_pos q2, if_pos q2]
        · rw [if_neg q2, if_neg q2]
          have t0 := Int.emod_nonneg b q2
          have t1 := Int.emod_lt_of_pos b (show 0 < r by omega)
          have t2 := Int.emod_add_mul_ediv b r
          have t3 : 1 ≤ b / r := by
            have := Int.le_ediv_of_mul_le (a := 1) (b := b) (c := r) (by omega) (by omega)
            exact this
          have t4 : r * 1 ≤ r * (b / r) := Int.mul_le_mul_of_nonneg_left t3 (by omega)
          have hk : b < 2 ^ k * 2 := by rw [← Int.pow_succ]; exact hk
          exact gcE_st n r (b % r) r0 t0 k (by omega) (by omega) N (by omega)
theorem gcE_pos : ∀ (n : Nat) (a b : Int), 0 < a → 0 ≤ b → 0 < gcE n a b ∧ gcE n a b ≤ max a b
  | 0, a, b, h, h2 => by
    show 0 < a ∧ a ≤ max a b
    omega
  | n + 1, a, b, h, h2 => by
    show 0 < (if b = 0 then a else gcE n b (a % b)) ∧ (if b = 0 then a else gcE n b (a % b)) ≤ max a b
    by_cases q : b = 0
    · rw [if_pos q]
      omega
    · rw [if_neg q]
      have r0 := Int.emod_nonneg a q
      have r1 := Int.emod_lt_of_pos a (show 0 < b by omega)
      have := gcE_pos n b (a % b) (by omega) r0
      omega
theorem wL_nn {x : Int} (h : 0 ≤ x ∧ x ≤ 1000000000000) : wL x = x := wL_id (by omega) (by omega)
theorem p_wp_shorten {A B : Int} {s : Mem} {Q : Mem → Prop} (eA : s 26 7 0 = A) (eB : s 26 8 0 = B) (hA : 0 ≤ A ∧ A ≤ 1000000000000) (hB : 1 ≤ B ∧ B ≤ 1000000000000)
    (h : ∀ t, FrJ 26 (fun j => j = 7 ∨ j = 8) s t → t 26 7 0 = A / gcE 200 B A → t 26 8 0 = B / gcE 200 B A → Q t) : W_wp_shortenFraction s Q := by
  refine w_wp_shortenFraction (b_wp_shortenFraction_0 ?_)
  unfold T_wp_shortenFraction_0
  rw [eA, eB]
  have loop : ∀ n : Nat, ∀ a b i : Int, i = 200 - n → (1 ≤ a ∧ a ≤ 1000000000000) → (0 ≤ b ∧ b ≤ 1000000000000) → n ≤ 200 → gcE n a b = gcE 200 B A → K_wp_shortenFraction_13 Q a b i s := by
    intro n
    induction n with
    | zero =>
      intro a b i hi ha hb hn he
      refine b_wp_shortenFraction_13 ?_
      unfold T_wp_shortenFraction_13 T_wp_shortenFraction_43 T_wp_shortenFraction_69
      rw [lcp_le, wL_0, wL_nn (x := a) (by omega), wr_id (x := i) (by omega) (by omega)]
      refine ⟨fun _ => br_f (by omega) ⟨by omega, fun s2 x2 => ⟨by omega, fun s3 x3 => ?_⟩⟩, fun z => by omega⟩
      obtain ⟨a1, a2, a3⟩ := updM_f x2
      obtain ⟨b1, b2, b3⟩ := updM_f x3
      have he : a = gcE 200 B A := he
      rw [eA, ldv_p (by omega) (by omega)] at a3
      rw [a2 8 (by omega), eB, ldv_p (by omega) (by omega)] at b3
      rw [← he] at h
      exact h s3 ⟨fun o q => by rw [b1 o q, a1 o q], fun j q => by rw [b2 j (by omega), a2 j (by omega)]⟩ (by rw [b2 7 (by omega), a3, uA_s]) (by rw [b3, uA_s])
    | succ n ih =>
      intro a b i hi ha hb hn he
      refine b_wp_shortenFraction_13 ?_
      unfold T_wp_shortenFraction_13
      rw [lcp_eq, wL_0, wL_nn (x := b) (by omega), wr_id (x := i) (by omega) (by omega)]
      have he : (if b = 0 then a else gcE n b (a % b)) = gcE 200 B A := he
      refine ⟨fun z => by omega, fun _ => ⟨fun c => ?_, fun c => ⟨c, ?_⟩⟩⟩
      · rw [if_pos c] at he
        unfold T_wp_shortenFraction_43 T_wp_shortenFraction_69
        rw [lcp_le, wL_0, wL_nn (x := a) (by omega)]
        refine br_f (by omega) ⟨by omega, fun s2 x2 => ⟨by omega, fun s3 x3 => ?_⟩⟩
        obtain ⟨a1, a2, a3⟩ := updM_f x2
        obtain ⟨b1, b2, b3⟩ := updM_f x3
        rw [eA, ldv_p (by omega) (by omega)] at a3
        rw [a2 8 (by omega), eB, ldv_p (by omega) (by omega)] at b3
        rw [← he] at h
        exact h s3 ⟨fun o q => by rw [b1 o q, a1 o q], fun j q => by rw [b2 j (by omega), a2 j (by omega)]⟩ (by rw [b2 7 (by omega), a3, uA_s]) (by rw [b3, uA_s])
      · rw [if_neg c] at he
        rw [lrm_p (by omega) (by omega)]
        have r0 := Int.emod_nonneg a c
        have r1 := Int.emod_lt_of_pos a (show 0 < b by omega)
        exact ih b (a % b) (i + 1) (by omega) (by omega) (by omega) (by omega) he
  exact loop 200 B A 0 (by omega) hB hA (by omega) rfl
theorem p_md_divisor {A B : Int} {s : Mem} {Q : Int → Mem → Prop} (hA : 0 ≤ A ∧ A ≤ 1000000000000) (hB : 1 ≤ B ∧ B ≤ 1000000000000) (h : Q (gcE 200 B A) s) : W_md_divisor A B s Q := by
  refine w_md_divisor (b_md_divisor_0 ?_)
  unfold T_md_divisor_0
  have loop : ∀ n : Nat, ∀ x y : Int, (1 ≤ y ∧ y ≤ 1000000000000) → (0 ≤ x ∧ x ≤ 1000000000000) → (∀ k, x < 2 ^ k → 2 * k + 1 ≤ n → n ≤ 200 → gcE n y x = gcE 200 B A → K_md_divisor_6 Q x y s) := by
    intro n
    induction n using Nat.strongRecOn with
    | ind n ih =>
      intro x y hy hx k hk hn hn2 he
      refine b_md_divisor_6 ?_
      unfold T_md_divisor_6 T_md_divisor_31
      rw [lcp_eq, wL_0, wL_nn (x := x) (by omega)]
      obtain ⟨n, rfl⟩ : ∃ m, n = m + 1 := ⟨n - 1, by omega⟩
      have he : (if x = 0 then y else gcE n x (y % x)) = gcE 200 B A := he
      refine ⟨fun c => ?_, fun c => ⟨c, ?_⟩⟩
      · rw [if_pos c] at he
        rw [he]
        exact h
      · rw [if_neg c] at he
        rw [lrm_p (by omega) (by omega)]
        have r0 := Int.emod_nonneg y c
        have r1 := Int.emod_lt_of_pos y (show 0 < x by omega)
        generalize y % x = r at he r0 r1 ⊢
        -- one turn more
        cases k with
        | zero =>
          have : (2 : Int) ^ 0 = 1 := Int.pow_zero _
          omega
        | succ k =>
          obtain ⟨n, rfl⟩ : ∃ m, n = m + 1 := ⟨n - 1, by omega⟩
          refine b_md_divisor_6 ?_
          unfold T_md_divisor_6 T_md_divisor_31
          rw [lcp_eq, wL_0, wL_nn (x := r) (by omega)]
          have he : (if r = 0 then x else gcE n r (x % r)) = gcE 200 B A := he
          refine ⟨fun c2 => ?_, fun c2 => ⟨c2, ?_⟩⟩
          · rw [if_pos c2] at he
            rw [he]
            exact h
          · rw [if_neg c2] at he
            rw [lrm_p (by omega) (by omega)]
            have t0 := Int.emod_nonneg x c2
            have t1 := Int.emod_lt_of_pos x (show 0 < r by omega)
            have t2 := Int.emod_add_mul_ediv x r
            have t3 : 1 ≤ x / r := Int.le_ediv_of_mul_le (by omega) (by omega)
            have t4 : r * 1 ≤ r * (x / r) := Int.mul_le_mul_of_nonneg_left t3 (by omega)
            have hk : x < 2 ^ k * 2 := by rw [← Int.pow_succ]; exact hk
            exact ih n (by omega) (x % r) r (by omega) (by omega) k (by omega) (by omega) (by omega) he
  have p40 : (2 : Int) ^ 40 = 1099511627776 := by decide
  refine loop 200 A B hB hA 40 (by omega) (by omega) (by omega) rfl
