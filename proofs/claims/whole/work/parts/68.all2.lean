/-! ===== KNOWN ORDERS: the class's side ===== -/
theorem pcn_top {x n : Nat} (hx : x < 2 ^ n) : ∀ m : Nat, n ≤ m → pcn x m = pcn x n := by
  intro m hm
  obtain ⟨d, rfl⟩ : ∃ d, m = n + d := ⟨m - n, by omega⟩
  induction d with
  | zero => rfl
  | succ d ih =>
    show pcn x (n + d) + (if Nat.testBit x (n + d) = true then 1 else 0) = _
    rw [ih (by omega), if_neg ?_, Nat.add_zero]
    rw [Nat.testBit_lt_two_pow (Nat.lt_of_lt_of_le hx (Nat.pow_le_pow_right (by omega) (by omega)))]
    decide
theorem smB_add {f : Int → Int} {x i n : Nat} (hx : x < 2 ^ i) (hi : i < n) : smB f (2 ^ i + x) n = smB f x n + f (i : Int) := by
  have h2 : 2 ^ i + x < 2 ^ (i + 1) := by rw [Nat.pow_succ]; omega
  rw [smB_top h2 n (by omega), smB_top hx n (by omega)]
  show smB f (2 ^ i + x) i + (if Nat.testBit (2 ^ i + x) i = true then f (i : Int) else 0) = _
  rw [Nat.testBit_two_pow_add_eq, Nat.testBit_lt_two_pow hx, if_pos (by decide), smB_c i (fun k hk => Nat.testBit_two_pow_add_gt hk x)]
theorem pow9 {i : Nat} (h : i ≤ 9) : 1 ≤ 2 ^ i ∧ 2 ^ i ≤ 512 := by
  have h1 : 2 ^ i ≤ 2 ^ 9 := Nat.pow_le_pow_right (by omega) h
  have h2 : 0 < 2 ^ i := Nat.pow_pos (by omega)
  omega
theorem p_kp_addUp {n : Nat} {f : Int → Int} {s : Mem} {Q : Mem → Prop} (en : s 4 1 0 = (n : Int)) (hn : n ≤ 9) (ef : s 4 0 = f) (h : ∀ t, FrJ 25 (fun j => j = 0) s t → (∀ x : Nat, x < 2 ^ n → t 25 0 (x : Int) = smB f x n) → Q t) : W_kp_addUp 4 s Q := by
  refine w_kp_addUp (b_kp_addUp_0 rfl ?_)
  intro s1 x1
  obtain ⟨a1, a2, a3⟩ := updM_f x1
  have outer : ∀ c i : Nat, n - i = c → i ≤ n → ∀ t, FrJ 25 (fun j => j = 0) s t → (∀ x : Nat, x < 2 ^ i → t 25 0 (x : Int) = smB f x n) → K_kp_addUp_9 Q 4 (i : Int) t := by
    intro c
    induction c with
    | zero =>
      intro i hc hi t hF hT
      refine b_kp_addUp_9 rfl ?_
      unfold T_kp_addUp_9 T_kp_addUp_65
      have ei : i = n := by omega
      subst ei
      rw [hF.1 4 (by omega), en]
      refine ⟨fun _ => h t hF hT, fun z => by omega⟩
    | succ c ih =>
      intro i hc hi t hF hT
      refine b_kp_addUp_9 rfl ?_
      unfold T_kp_addUp_9
      have hp := pow9 (i := i) (by omega)
      have hp1 := pow9 (i := i + 1) (by omega)
      have hps : 2 ^ (i + 1) = 2 ^ i + 2 ^ i := by rw [Nat.pow_succ]; omega
      rw [hF.1 4 (by omega), en, wr_id (x := (n : Int)) (by omega) (by omega), wr_id (x := (i : Int)) (by omega) (by omega), shl_dec i (by omega)]
      refine ⟨fun z => by omega, fun _ => ?_⟩
      have inner : ∀ d x : Nat, 2 ^ i - x = d → x ≤ 2 ^ i → ∀ u, FrJ 25 (fun j => j = 0) s u → (∀ y : Nat, y < 2 ^ i + x → u 25 0 (y : Int) = smB f y n) → K_kp_addUp_24 Q 4 (i : Int) ((2 ^ i : Nat) : Int) (x : Int) u := by
        intro d
        induction d with
        | zero =>
          intro x hd hx u hFu hU
          refine b_kp_addUp_24 rfl ?_
          unfold T_kp_addUp_24 T_kp_addUp_59
          rw [wr_id (x := ((2 ^ i : Nat) : Int)) (by omega) (by omega), wr_id (x := (x : Int)) (by omega) (by omega)]
          refine ⟨fun _ => ?_, fun z => by omega⟩
          have := ih (i + 1) (by omega) (by omega) u hFu (fun y hy => hU y (by omega))
          rw [show ((i + 1 : Nat) : Int) = (i : Int) + 1 by omega] at this
          exact this
        | succ d ihd =>
          intro x hd hx u hFu hU
          refine b_kp_addUp_24 rfl ?_
          unfold T_kp_addUp_24
          rw [wr_id (x := ((2 ^ i : Nat) : Int)) (by omega) (by omega), wr_id (x := (x : Int)) (by omega) (by omega), wr_id (x := (i : Int)) (by omega) (by omega), wr_id (x := ((2 ^ i : Nat) : Int) + (x : Int)) (by omega) (by omega)]
          refine ⟨fun z => by omega, fun _ => ⟨by omega, by omega, by omega, fun s2 x2 => ?_⟩⟩
          obtain ⟨b1, b2, b3⟩ := updM_f x2
          rw [hFu.1 4 (by omega), ef, hU x (by omega)] at b3
          have := ihd (x + 1) (by omega) (by omega) s2 (hFu.tr ⟨b1, fun j q => b2 j q⟩) (fun y hy => by
            rw [b3]
            by_cases q : y = 2 ^ i + x
            · rw [uA_e _ (by omega), q, smB_add (by omega) (by omega)]
            · rw [uA_n _ (by omega)]
              exact hU y (by omega))
          rw [show ((x + 1 : Nat) : Int) = (x : Int) + 1 by omega] at this
          exact this
      have := inner (2 ^ i) 0 (by omega) (by omega) t hF (fun y hy => hT y (by omega))
      exact this
  have := outer n 0 (by omega) (by omega) s1 ⟨a1, fun j q => a2 j q⟩ (fun x hx => by
    have : x = 0 := by
      have : 2 ^ 0 = 1 := rfl
      omega
    subst this
    rw [a3]
    have e0 : ∀ m : Nat, smB f 0 m = 0 := by
      intro m
      induction m with
      | zero => rfl
      | succ m ih =>
        show smB f 0 m + (if Nat.testBit 0 m = true then f (m : Int) else 0) = 0
        rw [ih, Nat.zero_testBit, if_neg (by decide)]
        rfl
    rw [e0]
    exact uA_s _ _ _)
  exact this
theorem p_kp_addBale {N : Nat} {left th B : Int} {E C : Nat → Int} {s : Mem} {Q : Mem → Prop} (hN : 1 ≤ N ∧ N ≤ 512) (hth : 0 ≤ th ∧ th ≤ 8) (hE : ∀ a, a < N → 0 ≤ E a ∧ E a ≤ 4320) (hl : 0 ≤ left ∧ left ≤ 480) (hB : B ≤ 11) (hC : ∀ x, x < N → vC' B x (C x)) (e0 : ∀ x : Nat, x < N → s 25 0 (x : Int) = E x) (e1 : ∀ x : Nat, x < N → s 25 1 (x : Int) = C x)
    (h : ∀ t, FrJ 25 (fun j => j = 1) s t → (∀ x : Nat, x < N → t 25 1 (x : Int) = cst E C left th x) → Q t) : W_kp_addBale (N : Int) left th s Q := by
  refine w_kp_addBale (b_kp_addBale_0 ?_)
  unfold T_kp_addBale_0
  have outer : ∀ x : Nat, x < N → ∀ t, FrJ 25 (fun j => j = 1) s t → (∀ y : Nat, y < N → t 25 1 (y : Int) = if x < y then cst E C left th y else C y) → K_kp_addBale_5 Q left th (x : Int) t := by
    intro x
    induction x with
    | zero =>
      intro hx t hF hT
      refine b_kp_addBale_5 ?_
      unfold T_kp_addBale_5 T_kp_addBale_151
      refine ⟨fun _ => h t hF (fun y hy => ?_), fun z => absurd (by decide) z⟩
      rw [hT y hy]
      by_cases q : 0 < y
      · rw [if_pos q]
      · have : y = 0 := by omega
        subst this
        rw [if_neg q]
        rfl
    | succ x ih =>
      intro hx t hF hT
      refine b_kp_addBale_5 ?_
      unfold T_kp_addBale_5
      rw [wr_id (x := ((x + 1 : Nat) : Int)) (by omega) (by omega)]
      refine ⟨fun z => by omega, fun _ => ⟨by omega, ?_⟩⟩
      rw [hT (x + 1) hx, if_neg (by omega)]
      have inner : ∀ d a : Nat, a ≤ d → sub a (x + 1) → ∀ b : Int, (0 ≤ b ∧ b ≤ 1000000) → mnP (cnd E C left th (x + 1)) (x + 1) a a b = cst E C left th (x + 1) → K_kp_addBale_23 Q left th ((x + 1 : Nat) : Int) b (a : Int) t := by
        intro d
        induction d with
        | zero =>
          intro a had hs b hb hm
          have : a = 0 := by omega
          subst this
          refine b_kp_addBale_23 ?_
          unfold T_kp_addBale_23 T_kp_addBale_136
          rw [wr_id (x := ((x + 1 : Nat) : Int)) (by omega) (by omega)]
          refine ⟨fun _ => ⟨by omega, fun s1 x1 => ?_⟩, fun z => absurd (by decide) z⟩
          obtain ⟨a1, a2, a3⟩ := updM_f x1
          have := ih (by omega) s1 (hF.tr ⟨a1, fun j q => a2 j q⟩) (fun y hy => by
            rw [a3]
            by_cases q : y = x + 1
            · rw [uA_e _ (by omega), if_pos (by omega), q, ← hm]
              rfl
            · rw [uA_n _ (by omega), hT y hy]
              by_cases q2 : x + 1 < y
              · rw [if_pos q2, if_pos (by omega)]
              · rw [if_neg q2, if_neg (by omega)])
          rw [show (x : Int) = ((x + 1 : Nat) : Int) + (-1) by omega] at this
          exact this
        | succ d ihd =>
          intro a had hs b hb hm
          by_cases hz : a = 0
          · exact ihd a (by omega) hs b hb hm
          · obtain ⟨sl, sl2, sl3⟩ := sub_le hs
            have hle : (a - 1) &&& (x + 1) ≤ a - 1 := Nat.and_le_left
            have hbA : bAnd ((a : Int) - 1) ((x + 1 : Nat) : Int) = (((a - 1) &&& (x + 1) : Nat) : Int) := by
              rw [show (a : Int) - 1 = ((a - 1 : Nat) : Int) by omega]
              exact bAnd_nat (by omega) (by omega)
            rw [mnP_1 (by omega)] at hm
            have hcv := hC ((x + 1) ^^^ a) (by omega)
            have hcb := vC'_bd hcv (by omega)
            have hea := hE a (by omega)
            have next : ∀ b' : Int, (0 ≤ b' ∧ b' ≤ 1000000) → b' = min b (cnd E C left th (x + 1) a) → T_kp_addBale_124 Q left th ((x + 1 : Nat) : Int) b' (a : Int) t := fun b' hb' he => by
              unfold T_kp_addBale_124
              rw [hbA]
              rw [← he] at hm
              exact ihd _ (by omega) (and_sub _ _) b' hb' hm
            have eidx : ((x + 1 : Nat) : Int) - (a : Int) = (((x + 1) ^^^ a : Nat) : Int) := by omega
            refine b_kp_addBale_23 ?_
            unfold T_kp_addBale_23 T_kp_addBale_65
            rw [wr_id (x := (a : Int)) (by omega) (by omega), eidx, wr_id (x := (((x + 1) ^^^ a : Nat) : Int)) (by omega) (by omega), hT ((x + 1) ^^^ a) (by omega), if_neg (by omega), hF.2 0 (by omega), e0 a (by omega), wr_id (x := b) (by omega) (by omega), wr_id (x := C ((x + 1) ^^^ a) + 1000) (by omega) (by omega), wr_id (x := E a) (by omega) (by omega), wr_id (x := left) (by omega) (by omega)]
            have hp9 := pcn_le a 9
            have hp1 := pcn_pos (x := a) 9 (by omega) (by omega)
            have h8 : ((pcn a 9 : Int)) * th ≤ (pcn a 9 : Int) * 8 := Int.mul_le_mul_of_nonneg_left hth.2 (by omega)
            have h0' : 0 ≤ (pcn a 9 : Int) * th := Int.mul_nonneg (by omega) hth.1
            have h0'' : 0 ≤ ((pcn a 9 : Int) - 1) * th := Int.mul_nonneg (by omega) hth.1
            have hsub : ((pcn a 9 : Int) - 1) * th = (pcn a 9 : Int) * th - th := by rw [Int.sub_mul, Int.one_mul]
            refine ⟨fun z => by omega, fun _ => ⟨by omega, fun c1 => next b hb ?_, fun c1 => ⟨by omega, fun c2 => ?_, fun c2 => next b hb ?_⟩⟩⟩
            · unfold cnd
              split <;> omega
            · refine p_ji_bitCount (by omega) ⟨by omega, ?_⟩
              rw [hF.2 0 (by omega), e0 a (by omega), wr_id (x := E a + ((pcn a 9 : Int) - 1) * th) (by omega) (by omega)]
              refine ⟨fun c3 => next b hb ?_, fun c3 => ⟨by omega, ?_⟩⟩
              · unfold cnd
                rw [if_neg (by omega)]
                omega
              · intro y1 ey1 y2 ey2
                rw [wr_id (x := left - E a) (by omega) (by omega), wr_id (x := (pcn a 9 : Int) * th) (by omega) (by omega)] at ey1
                rw [wr_id (x := C ((x + 1) ^^^ a) + 1000 + y1) (by omega) (by omega)] at ey2
                refine next y2 (by omega) ?_
                unfold cnd
                rw [if_pos ⟨by omega, by omega⟩, ey2, ey1]
            · unfold cnd
              rw [if_neg (by omega)]
              omega
      refine inner (x + 1) (x + 1) (Nat.le_refl _) (sub_rf _) (C (x + 1)) (vC'_bd (hC (x + 1) hx) (by omega)) ?_
      unfold cst
      rw [if_neg (by omega)]
  have := outer (N - 1) (by omega) s FrJ.rf (fun y hy => by rw [if_neg (by omega)]; exact e1 y hy)
  rw [show ((N - 1 : Nat) : Int) = (N : Int) - 1 by omega] at this
  exact this
theorem p_kp_choose {N : Nat} {E C : Nat → Int} {s : Mem} {Q : Mem → Prop} (hN : 1 ≤ N ∧ N ≤ 512) (hE : ∀ a, a < N → 0 ≤ E a ∧ E a ≤ 4320) (hC : ∀ x, x < N → 0 ≤ C x ∧ C x ≤ 1000000) (e0 : ∀ x : Nat, x < N → s 25 0 (x : Int) = E x) (e1 : ∀ x : Nat, x < N → s 25 1 (x : Int) = C x)
    (h : ∀ t, FrJ 25 (fun _ => True) s t → t 25 2 0 = E (chs E C (N - 1) 1 0) → t 25 3 0 = C (chs E C (N - 1) 1 0) / 1000 → t 25 4 0 = C (chs E C (N - 1) 1 0) % 1000 → Q t) : W_kp_choose (N : Int) s Q := by
  refine w_kp_choose (b_kp_choose_0 ?_)
  have loop : ∀ f x b : Nat, x + f = N → b < N → chs E C f x b = chs E C (N - 1) 1 0 → K_kp_choose_4 Q (N : Int) (b : Int) (x : Int) s := by
    intro f
    induction f with
    | zero =>
      intro x b hx hb he
      refine b_kp_choose_4 ?_
      unfold T_kp_choose_4 T_kp_choose_76
      have he : b = chs E C (N - 1) 1 0 := he
      have hcb := hC b hb
      rw [wr_id (x := (N : Int)) (by omega) (by omega), wr_id (x := (x : Int)) (by omega) (by omega), wr_id (x := (b : Int)) (by omega) (by omega)]
      refine ⟨fun _ => ⟨by omega, fun s1 x1 => ⟨by omega, fun s2 x2 => ⟨by omega, fun s3 x3 => ?_⟩⟩⟩, fun z => by omega⟩
      obtain ⟨a1, a2, a3⟩ := updM_f x1
      obtain ⟨b1, b2, b3⟩ := updM_f x2
      obtain ⟨c1, c2, c3⟩ := updM_f x3
      rw [e0 b hb] at a3
      rw [a2 1 (by omega), e1 b hb, idv_p (by omega) (by omega)] at b3
      rw [b2 1 (by omega), a2 1 (by omega), e1 b hb, irm_p (by omega) (by omega)] at c3
      rw [← he] at h
      refine h s3 ⟨fun o q => by rw [c1 o q, b1 o q, a1 o q], fun _ q => absurd trivial q⟩ ?_ ?_ ?_
      · rw [c2 2 (by omega), b2 2 (by omega), a3, uA_s]
      · rw [c2 3 (by omega), b3, uA_s]
      · rw [c3, uA_s]
    | succ f ih =>
      intro x b hx hb he
      refine b_kp_choose_4 ?_
      unfold T_kp_choose_4 T_kp_choose_70 T_kp_choose_38 T_kp_choose_68
      have hcb := hC b hb
      have hcx := hC x (by omega)
      have heb := hE b hb
      have hex := hE x (by omega)
      have he : chs E C f (x + 1) (if C x < 1000000 ∧ (E b < E x ∨ (E x = E b ∧ C x < C b)) then x else b) = chs E C (N - 1) 1 0 := he
      have ih := ih (x + 1)
      rw [show ((x + 1 : Nat) : Int) = (x : Int) + 1 by omega] at ih
      rw [wr_id (x := (N : Int)) (by omega) (by omega), wr_id (x := (x : Int)) (by omega) (by omega), wr_id (x := (b : Int)) (by omega) (by omega), e0 b hb, e0 x (by omega), e1 b hb, e1 x (by omega), wr_id (x := C x) (by omega) (by omega), wr_id (x := C b) (by omega) (by omega), wr_id (x := E x) (by omega) (by omega), wr_id (x := E b) (by omega) (by omega)]
      have keep : ¬ (C x < 1000000 ∧ (E b < E x ∨ (E x = E b ∧ C x < C b))) → K_kp_choose_4 Q (N : Int) (b : Int) ((x : Int) + 1) s := fun c => by
        rw [if_neg c] at he
        exact ih b (by omega) hb he
      have take : (C x < 1000000 ∧ (E b < E x ∨ (E x = E b ∧ C x < C b))) → T_kp_choose_70 Q (N : Int) (x : Int) (x : Int) s := fun c => by
        rw [if_pos c] at he
        exact ih x (by omega) (by omega) he
      refine ⟨fun z => by omega, fun _ => ⟨by omega, fun c1 => keep (by omega), fun c1 => ⟨by omega, by omega, fun c2 => ⟨by omega, by omega, fun c3 => take (by omega), fun c3 => ⟨by omega, by omega, fun c4 => keep (by omega), fun c4 => take (by omega)⟩⟩, fun c2 => keep (by omega)⟩⟩⟩
  have := loop (N - 1) 1 0 (by omega) (by omega) rfl
  exact this
