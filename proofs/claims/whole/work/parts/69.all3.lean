/-- the costs behind so many BALES -/
def cstB (E : Nat → Int) (th : Int) (left : Int → Int) : Nat → Nat → Int
  | 0 => fun x => if x = 0 then 0 else 1000000
  | b + 1 => cst E (cstB E th left b) (left (b : Int)) th
theorem cstB_v {E : Nat → Int} {th : Int} {left : Int → Int} {N : Nat} (hth : 0 ≤ th ∧ th ≤ 8) (hE : ∀ a, 0 < a → a < N → 1 ≤ E a) (hN : N ≤ 512) : ∀ b : Nat, b ≤ 12 → (∀ k : Nat, k < b → 0 ≤ left (k : Int) ∧ left (k : Int) ≤ 480) → ∀ x, x < N → vC' (b : Int) x (cstB E th left b x)
  | 0, _, _ => fun x _ => by
    show vC' 0 x (if x = 0 then 0 else 1000000)
    split
    · exact Or.inr ⟨by omega, by omega, by omega⟩
    · exact Or.inl rfl
  | b + 1, hb, hl => fun x hx => by
    have ih := cstB_v hth hE hN b (by omega) (fun k hk => hl k (by omega))
    have := cst_v hth hE (hl b (by omega)) (B := (b : Int)) (by omega) hN ih x hx
    rw [show ((b + 1 : Nat) : Int) = (b : Int) + 1 by omega]
    exact this
theorem p_kp_work {n : Nat} {f : Int → Int} {nb : Nat} {th : Int} {left : Int → Int} {s : Mem} {Q : Mem → Prop} (en : s 4 1 0 = (n : Int)) (hn : n ≤ 9) (ef : s 4 0 = f) (hf : ∀ k : Nat, k < n → 1 ≤ f (k : Int) ∧ f (k : Int) ≤ 480) (eb : s 3 4 0 = (nb : Int)) (hnb : nb ≤ 12) (eth : s 3 8 0 = th) (hth : 0 ≤ th ∧ th ≤ 8) (el : s 3 0 = left) (hl : ∀ k : Nat, k < nb → 0 ≤ left (k : Int) ∧ left (k : Int) ≤ 480)
    (h : ∀ t best, best = chs (fun x => smB f x n) (cstB (fun x => smB f x n) th left nb) (2 ^ n - 1) 1 0 → FrJ 25 (fun _ => True) s t → t 25 2 0 = smB f best n → t 25 3 0 = cstB (fun x => smB f x n) th left nb best / 1000 → t 25 4 0 = cstB (fun x => smB f x n) th left nb best % 1000 → Q t) : W_kp_work 3 4 s Q := by
  have hp := pow9 hn
  have hE1 : ∀ a, 0 < a → a < 2 ^ n → 1 ≤ smB f a n := fun a h0 h1 => by
    have h2 := (smB_bd (f := f) (x := a) n hf).1
    have h3 := pcn_pos n h0 h1
    omega
  have hE2 : ∀ a, a < 2 ^ n → 0 ≤ smB f a n ∧ smB f a n ≤ 4320 := fun a h1 => by
    have h2 := smB_bd (f := f) (x := a) n hf
    omega
  have hCv : ∀ b : Nat, b ≤ nb → ∀ x, x < 2 ^ n → vC' (b : Int) x (cstB (fun x => smB f x n) th left b x) := fun b hb => cstB_v hth hE1 hp.2 b (by omega) (fun k hk => hl k (by omega))
  generalize hg : (fun x : Nat => smB f x n) = E at h hCv
  have hgx : ∀ x, smB f x n = E x := fun x => by rw [← hg]
  have hE1 : ∀ a, 0 < a → a < 2 ^ n → 1 ≤ E a := fun a h0 h1 => by rw [← hgx]; exact hE1 a h0 h1
  have hE2 : ∀ a, a < 2 ^ n → 0 ≤ E a ∧ E a ≤ 4320 := fun a h1 => by rw [← hgx]; exact hE2 a h1
  refine w_kp_work (b_kp_work_0 rfl rfl (p_kp_addUp (n := n) (f := f) en hn ef (fun t1 F1 T1 => ?_)))
  intro s2 x2
  obtain ⟨a1, a2, a3⟩ := updM_f x2
  have s24 : s2 4 = s 4 := (a1 4 (by omega)).trans (F1.1 4 (by omega))
  rw [en, shl_dec n (by omega)]
  have T2 : ∀ x : Nat, x < 2 ^ n → s2 25 0 (x : Int) = E x := fun x hx => by rw [a2 0 (by omega), T1 x hx, hgx]
  have F2 : FrJ 25 (fun _ => True) s s2 := ⟨fun o q => by rw [a1 o q, F1.1 o q], fun _ q => absurd trivial q⟩
  have bales : ∀ d b : Nat, nb - b = d → b ≤ nb → ∀ t, FrJ 25 (fun _ => True) s t → (∀ x : Nat, x < 2 ^ n → t 25 0 (x : Int) = E x) → (∀ x : Nat, x < 2 ^ n → t 25 1 (x : Int) = cstB E th left b x) → K_kp_work_46 Q 3 ((2 ^ n : Nat) : Int) (b : Int) t := by
    intro d
    induction d with
    | zero =>
      intro b hd hb t hF hT0 hT1
      refine b_kp_work_46 rfl ?_
      unfold T_kp_work_46 T_kp_work_87
      have e : b = nb := by omega
      subst e
      rw [hF.1 3 (by omega), eb, wr_id (x := (b : Int)) (by omega) (by omega)]
      refine ⟨fun _ => ?_, fun z => by omega⟩
      refine p_kp_choose (N := 2 ^ n) (E := E) (C := cstB E th left b) hp hE2 (fun x hx => vC'_bd (hCv b (Nat.le_refl _) x hx) (by omega)) hT0 hT1 (fun u hFu q2 q3 q4 => ?_)
      rw [← hgx] at q2
      exact h u _ rfl (hF.tr hFu) q2 q3 q4
    | succ d ih =>
      intro b hd hb t hF hT0 hT1
      refine b_kp_work_46 rfl ?_
      unfold T_kp_work_46 T_kp_work_81
      have hlb := hl b (by omega)
      rw [hF.1 3 (by omega), eb, wr_id (x := (nb : Int)) (by omega) (by omega), wr_id (x := (b : Int)) (by omega) (by omega), el, wr_id (x := left (b : Int)) (by omega) (by omega), eth]
      have ih := ih (b + 1) (by omega) (by omega)
      rw [show ((b + 1 : Nat) : Int) = (b : Int) + 1 by omega] at ih
      refine ⟨fun z => by omega, fun _ => ⟨by omega, fun c => ?_, fun c => ⟨by omega, ?_⟩⟩⟩
      · refine ih t hF hT0 (fun x hx => ?_)
        rw [hT1 x hx]
        have e0 : left (b : Int) = 0 := by omega
        show _ = cst E (cstB E th left b) (left (b : Int)) th x
        rw [e0, cst_0 hth hE1 hp.2 (B := (b : Int)) (by omega) (hCv b (by omega)) x hx]
      · refine p_kp_addBale (N := 2 ^ n) (B := (b : Int)) (E := E) (C := cstB E th left b) hp hth hE2 hlb (by omega) (hCv b (by omega)) hT0 hT1 (fun u hFu hu => ?_)
        refine ih u ⟨fun o q => by rw [hFu.1 o q, hF.1 o q], fun _ q => absurd trivial q⟩ (fun x hx => by rw [hFu.2 0 (by omega)]; exact hT0 x hx) hu
  have init : ∀ d x : Nat, 2 ^ n - x = d → 1 ≤ x → x ≤ 2 ^ n → ∀ t, FrJ 25 (fun _ => True) s t → (∀ x : Nat, x < 2 ^ n → t 25 0 (x : Int) = E x) → (∀ y : Nat, y < x → t 25 1 (y : Int) = if y = 0 then 0 else 1000000) → K_kp_work_22 Q 3 ((2 ^ n : Nat) : Int) (x : Int) t := by
    intro d
    induction d with
    | zero =>
      intro x hd h1 hx t hF hT0 hT1
      refine b_kp_work_22 rfl ?_
      unfold T_kp_work_22 T_kp_work_43
      rw [wr_id (x := ((2 ^ n : Nat) : Int)) (by omega) (by omega), wr_id (x := (x : Int)) (by omega) (by omega)]
      refine ⟨fun _ => bales nb 0 (by omega) (by omega) t hF hT0 (fun y hy => hT1 y (by omega)), fun z => by omega⟩
    | succ d ih =>
      intro x hd h1 hx t hF hT0 hT1
      refine b_kp_work_22 rfl ?_
      unfold T_kp_work_22
      rw [wr_id (x := ((2 ^ n : Nat) : Int)) (by omega) (by omega), wr_id (x := (x : Int)) (by omega) (by omega)]
      refine ⟨fun z => by omega, fun _ => ⟨by omega, fun u xu => ?_⟩⟩
      obtain ⟨b1, b2, b3⟩ := updM_f xu
      have := ih (x + 1) (by omega) (by omega) (by omega) u ⟨fun o q => by rw [b1 o q, hF.1 o q], fun _ q => absurd trivial q⟩ (fun y hy => by rw [b2 0 (by omega)]; exact hT0 y hy) (fun y hy => by
        rw [b3]
        by_cases q : y = x
        · rw [uA_e _ (by omega), if_neg (by omega)]
        · rw [uA_n _ (by omega)]
          exact hT1 y (by omega))
      rw [show ((x + 1 : Nat) : Int) = (x : Int) + 1 by omega] at this
      exact this
  have := init (2 ^ n - 1) 1 (by omega) (by omega) hp.1 s2 F2 T2 (fun y hy => by
    have : y = 0 := by omega
    subst this
    rw [a3, if_pos rfl]
    exact uA_s _ _ _)
  exact this
/-! the reference's side -/
theorem p_md_sumOf {n x : Nat} {s : Mem} {Q : Int → Mem → Prop} (en : s 34 2 15 = (n : Int)) (hn : n ≤ 9) (hx : x < 1024) (h : Q (smB (s 34 26) x n) s) : W_md_sumOf (x : Int) s Q := by
  refine w_md_sumOf (b_md_sumOf_0 ?_)
  have loop : ∀ d k : Nat, n - k = d → k ≤ n → K_md_sumOf_4 Q (x : Int) (smB (s 34 26) x k) (k : Int) s := by
    intro d
    induction d with
    | zero =>
      intro k hd hk
      have e : k = n := by omega
      subst e
      refine b_md_sumOf_4 ?_
      unfold T_md_sumOf_4 T_md_sumOf_42
      rw [en, wr_id (x := (k : Int)) (by omega) (by omega)]
      exact ⟨fun _ => h, fun z => by omega⟩
    | succ d ih =>
      intro k hd hk
      refine b_md_sumOf_4 ?_
      unfold T_md_sumOf_4 T_md_sumOf_33 T_md_sumOf_34
      rw [en, wr_id (x := (n : Int)) (by omega) (by omega), wr_id (x := (k : Int)) (by omega) (by omega)]
      have ih : K_md_sumOf_4 Q (x : Int) (smB (s 34 26) x k + (if Nat.testBit x k = true then s 34 26 (k : Int) else 0)) (((k + 1 : Nat)) : Int) s := ih (k + 1) (by omega) (by omega)
      rw [show ((k + 1 : Nat) : Int) = (k : Int) + 1 by omega, ← mem_k] at ih
      refine ⟨fun z => by omega, fun _ => p_md_has hx (by omega) (zt (fun c => ⟨by omega, ?_⟩) (fun c => ?_))⟩
      · rw [if_pos c] at ih
        exact ih
      · rw [if_neg c] at ih
        exact ih
  have := loop n 0 (by omega) (by omega)
  exact this
theorem smB_mono {f : Int → Int} {x k : Nat} : ∀ m : Nat, k ≤ m → (∀ i : Nat, i < m → 0 ≤ f (i : Int)) → smB f x k ≤ smB f x m ∧ pcn x k ≤ pcn x m := by
  intro m hm hf
  obtain ⟨d, rfl⟩ : ∃ d, m = k + d := ⟨m - k, by omega⟩
  induction d with
  | zero => exact ⟨Int.le_refl _, Nat.le_refl _⟩
  | succ d ih =>
    have ih := ih (by omega) (fun i hi => hf i (by omega))
    have h0 := hf (k + d) (by omega)
    show smB f x k ≤ smB f x (k + d) + (if Nat.testBit x (k + d) = true then f ((k + d : Nat) : Int) else 0) ∧ pcn x k ≤ pcn x (k + d) + (if Nat.testBit x (k + d) = true then 1 else 0)
    split <;> omega
def wst (f : Int → Int) (left th : Int) (n x : Nat) : Int := if smB f x n + ((pcn x n : Int) - 1) * th ≤ left then min (left - smB f x n) ((pcn x n : Int) * th) else 1000000
theorem p_md_wastedBy {n x b : Nat} {s : Mem} {Q : Int → Mem → Prop} (en : s 34 2 15 = (n : Int)) (hn : n ≤ 9) (hx : x < 512) (hb : b < 12) (hl : 0 ≤ s 34 3 (b : Int) ∧ s 34 3 (b : Int) ≤ 480) (hth : 0 ≤ s 34 2 2 ∧ s 34 2 2 ≤ 8) (hf : ∀ k : Nat, k < n → 1 ≤ s 34 26 (k : Int) ∧ s 34 26 (k : Int) ≤ 480) (h : Q (wst (s 34 26) (s 34 3 (b : Int)) (s 34 2 2) n x) s) : W_md_wastedBy (b : Int) (x : Int) s Q := by
  have hcall := fun k => smB_bd (f := s 34 26) (x := x) k
  refine w_md_wastedBy (b_md_wastedBy_0 ?_)
  unfold T_md_wastedBy_0
  rw [wr_id (x := (b : Int)) (by omega) (by omega)]
  refine ⟨by omega, ?_⟩
  generalize hL : s 34 3 (b : Int) = L at hl h ⊢
  generalize hT : s 34 2 2 = th at hth h
  have mulb : ∀ k : Nat, k ≤ 9 → (0 ≤ (pcn x k : Int) * th ∧ (pcn x k : Int) * th ≤ 72) ∧ ((pcn x k : Int) - 1) * th = (pcn x k : Int) * th - th := fun k hk => by
    have h9 := pcn_le x k
    have h8 : ((pcn x k : Int)) * th ≤ (pcn x k : Int) * 8 := Int.mul_le_mul_of_nonneg_left hth.2 (by omega)
    have h0' : 0 ≤ (pcn x k : Int) * th := Int.mul_nonneg (by omega) hth.1
    exact ⟨⟨h0', by omega⟩, by rw [Int.sub_mul, Int.one_mul]⟩
  have loop : ∀ d k : Nat, n - k = d → k ≤ n → smB (s 34 26) x k + (pcn x k : Int) * th - th ≤ L → ∀ a c : Int, a = max 0 (L - smB (s 34 26) x k - (pcn x k : Int) * th) → c = min (L - smB (s 34 26) x k) ((pcn x k : Int) * th) → (pcn x k = 0 ∨ smB (s 34 26) x k ≤ L) → K_md_wastedBy_13 Q (x : Int) a c (k : Int) s := by
    intro d
    induction d with
    | zero =>
      intro k hd hk hfe a c ha hc _
      have e : k = n := by omega
      subst e
      refine b_md_wastedBy_13 ?_
      unfold T_md_wastedBy_13 T_md_wastedBy_95
      rw [en, wr_id (x := (k : Int)) (by omega) (by omega)]
      refine ⟨fun _ => ?_, fun z => by omega⟩
      unfold wst at h
      have := mulb k hn
      rw [if_pos (by omega)] at h
      rw [hc]
      exact h
    | succ d ih =>
      intro k hd hk hfe a c ha hc hle
      refine b_md_wastedBy_13 ?_
      unfold T_md_wastedBy_13 T_md_wastedBy_89 T_md_wastedBy_49 T_md_wastedBy_89
      have hfk := hf k (by omega)
      have hbk := hcall k (fun i hi => hf i (by omega))
      have m1 := mulb k (by omega)
      rw [en, wr_id (x := (n : Int)) (by omega) (by omega), wr_id (x := (k : Int)) (by omega) (by omega), wr_id (x := a) (by omega) (by omega)]
      have ih := ih (k + 1) (by omega) (by omega)
      have m2 := mulb (k + 1) (by omega)
      have mo := smB_mono (f := s 34 26) (x := x) (k := k + 1) n (by omega) (fun i hi => by have := hf i hi; omega)
      have mn := mulb n hn
      have hth2 : (pcn x (k + 1) : Int) * th ≤ (pcn x n : Int) * th := Int.mul_le_mul_of_nonneg_right (by omega) hth.1
      rw [show ((k + 1 : Nat) : Int) = (k : Int) + 1 by omega] at ih
      have es : smB (s 34 26) x (k + 1) = smB (s 34 26) x k + (if Nat.testBit x k = true then s 34 26 (k : Int) else 0) := rfl
      have ep : pcn x (k + 1) = pcn x k + (if Nat.testBit x k = true then 1 else 0) := rfl
      rw [es, ep] at ih mo
      rw [ep] at m2 hth2
      refine ⟨fun z => by omega, fun _ => p_md_has (by omega) (by omega) (zt (fun cb => ?_) (fun cb => ?_))⟩
      · rw [mem_k] at cb
        rw [if_pos cb, if_pos cb] at ih mo
        rw [if_pos cb] at m2 hth2
        have e1 : ((pcn x k + 1 : Nat) : Int) * th = (pcn x k : Int) * th + th := by rw [show ((pcn x k + 1 : Nat) : Int) = (pcn x k : Int) + 1 by omega, Int.add_mul, Int.one_mul]
        rw [e1] at ih m2 hth2
        rw [wr_id (x := s 34 26 (k : Int)) (by omega) (by omega), hT]
        refine ⟨by omega, fun c2 => ⟨by omega, p_md_taken (by omega) (by omega) ⟨by omega, ?_⟩⟩, fun c2 => ?_⟩
        · intro x3 e3
          have et : tkn a (s 34 26 (k : Int)) th = min a (s 34 26 (k : Int) + th) := by
            unfold tkn
            split <;> omega
          rw [et] at e3 ⊢
          exact ih (by omega) _ _ (by omega) (by omega) (by omega)
        · unfold wst at h
          rw [if_neg (by omega)] at h
          exact h
      · rw [mem_k] at cb
        rw [if_neg cb, if_neg cb, Int.add_zero, Nat.add_zero] at ih
        exact ih hfe a c ha hc hle
  have p0 : pcn x 0 = 0 := rfl
  have s0 : smB (s 34 26) x 0 = 0 := rfl
  have := loop n 0 (by omega) (by omega) (by rw [p0, s0]; omega) L 0 (by rw [p0, s0]; omega) (by rw [p0, s0]; omega) (Or.inl rfl)
  exact this
