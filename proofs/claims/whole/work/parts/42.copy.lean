/-! ===== what is copied holds as before ===== -/
def shN (j : Nat) : Int := if j < 4 then 12 else if j = 5 ∨ j = 6 then 16 else if j = 11 ∨ j = 12 ∨ j = 13 then 8 else if j < 17 then 1 else 0
def toN (j : Nat) : Int := if j = 0 ∨ j = 2 then 9 else if j = 3 ∨ j = 4 then 5 else if j = 6 then 6 else if j < 8 then 1 else 0
def sdN (j : Nat) : Int := if j < 2 then 0 else if j < 6 then 10 else if j < 13 then 1 else 0
def mdN (a : Nat) : Nat := if a = 0 then 18 else if a < 5 then 12 else if a < 7 then 16 else if a < 10 then 8 else if a < 14 then 10 else if a < 16 then 9 else if a < 18 then 5 else if a < 20 then 20 else 0
/-- the same within the rows' lengths -/
def EqN (n : Nat → Int) (S S' : Nat → Int → Int) : Prop := ∀ (j : Nat) (k : Int), 0 ≤ k → k < n j → S' j k = S j k
theorem EqN.rf {n : Nat → Int} {S : Nat → Int → Int} : EqN n S S := fun _ _ _ _ => rfl
theorem EqN.sy {n : Nat → Int} {S T : Nat → Int → Int} (h : EqN n S T) : EqN n T S := fun j k h0 h1 => (h j k h0 h1).symm
theorem EqN.tr {n : Nat → Int} {S T U : Nat → Int → Int} (h : EqN n S T) (h2 : EqN n T U) : EqN n S U := fun j k h0 h1 => (h2 j k h0 h1).trans (h j k h0 h1)
def mdI (a : Nat) : Int := (mdN a : Int)
theorem RSh_x {S S' M M' : Nat → Int → Int} (hS : EqN shN S S') (hM : EqN mdI M M') (h : RSh S M) : RSh S' M' := by
  obtain ⟨⟨a1, a2, a3⟩, ⟨f1, f2, f3, f4⟩, ⟨s1, s2, s3, s4, s5⟩, g1, g2⟩ := h
  have m0 : ∀ k, 0 ≤ k → k < 18 → M' 0 k = M 0 k := fun k k0 k1 => hM 0 k k0 k1
  have e4 : S' 4 0 = S 4 0 := hS 4 0 (by omega) (by show (0 : Int) < 1; omega)
  have e7 : S' 7 0 = S 7 0 := hS 7 0 (by omega) (by show (0 : Int) < 1; omega)
  refine ⟨⟨by rw [m0 0 (by omega) (by omega)]; exact a1, by rw [e4, m0 0 (by omega) (by omega)]; exact a2, fun b b0 b1 => ?_⟩, ⟨by rw [e7]; exact f1, by rw [m0 1 (by omega) (by omega)]; exact f2, ?_, fun k k0 k1 => ?_⟩, ⟨?_, ?_, ?_, ?_, ?_⟩, ?_, fun f f0 f1 => ?_⟩
  · rw [m0 0 (by omega) (by omega)] at b1
    rw [hS 0 b b0 (by show b < 12; omega), hS 1 b b0 (by show b < 12; omega), hS 2 b b0 (by show b < 12; omega), hS 3 b b0 (by show b < 12; omega), hM 1 b b0 (by show b < 12; omega), hM 2 b b0 (by show b < 12; omega), hM 3 b b0 (by show b < 12; omega), hM 4 b b0 (by show b < 12; omega)]
    exact a3 b b0 b1
  · rw [e7, m0 1 (by omega) (by omega), clL_congr (f' := S 5) (g' := S 6) (fun k hk => ⟨hS 5 k (by omega) (by show (k : Int) < 16; omega), hS 6 k (by omega) (by show (k : Int) < 16; omega)⟩), flL_congr (f' := M 5) (g' := M 6) (fun k hk => ⟨hM 5 k (by omega) (by show (k : Int) < 16; omega), hM 6 k (by omega) (by show (k : Int) < 16; omega)⟩)]
    exact f3
  · rw [m0 1 (by omega) (by omega)] at k1
    obtain ⟨x1, x2, x3, x4⟩ := f4 k k0 k1
    rw [hM 5 k k0 (by show k < 16; omega), hM 6 k k0 (by show k < 16; omega), m0 0 (by omega) (by omega), hM 1 (M 5 k) x1 (by show M 5 k < 12; omega)]
    exact ⟨x1, x2, x3, x4⟩
  · rw [m0 2 (by omega) (by omega), hS 8 0 (by omega) (by show (0 : Int) < 1; omega)]
    exact s1
  · rw [m0 3 (by omega) (by omega), hS 9 0 (by omega) (by show (0 : Int) < 1; omega)]
    exact s2
  · rw [m0 4 (by omega) (by omega), hS 10 0 (by omega) (by show (0 : Int) < 1; omega)]
    exact s3
  · rw [m0 6 (by omega) (by omega), hS 15 0 (by omega) (by show (0 : Int) < 1; omega)]
    exact s4
  · rw [m0 7 (by omega) (by omega), hS 16 0 (by omega) (by show (0 : Int) < 1; omega)]
    exact s5
  · rw [m0 5 (by omega) (by omega), hS 14 0 (by omega) (by show (0 : Int) < 1; omega)]
    exact g1
  · rw [m0 5 (by omega) (by omega)] at f1
    rw [hS 11 f f0 (by show f < 8; omega), hS 12 f f0 (by show f < 8; omega), hS 13 f f0 (by show f < 8; omega), hM 7 f f0 (by show f < 8; omega), hM 8 f f0 (by show f < 8; omega), hM 9 f f0 (by show f < 8; omega)]
    exact g2 f f0 f1
theorem RTo_x {T T' M M' : Nat → Int → Int} (hT : EqN toN T T') (hM : EqN mdI M M') (h : RTo T M) : RTo T' M' := by
  obtain ⟨⟨k1, k2⟩, w, ⟨l1, l2⟩, b1, b2, b3⟩ := h
  have m0 : ∀ k, 0 ≤ k → k < 18 → M' 0 k = M 0 k := fun k k0 k1 => hM 0 k k0 k1
  refine ⟨⟨?_, fun k k0 kk => ?_⟩, fun k k0 kk => ?_, ⟨?_, fun k k0 kk => ?_⟩, ?_, fun k k0 kk => ?_, fun c c0 c1 => ?_⟩
  · rw [hT 1 0 (by omega) (by show (0 : Int) < 1; omega), m0 15 (by omega) (by omega)]
    exact k1
  · rw [m0 15 (by omega) (by omega)] at kk
    rw [hT 0 k k0 (by show k < 9; omega), hM 14 k k0 (by show k < 9; omega)]
    exact k2 k k0 kk
  · rw [hT 2 k (by omega) (by show k < 9; omega), hM 15 k (by omega) (by show k < 9; omega)]
    exact w k k0 kk
  · rw [hT 5 0 (by omega) (by show (0 : Int) < 1; omega), m0 16 (by omega) (by omega)]
    exact l1
  · rw [m0 16 (by omega) (by omega)] at kk
    rw [hT 3 k k0 (by show k < 5; omega), hT 4 k k0 (by show k < 5; omega), hM 16 k k0 (by show k < 5; omega), hM 17 k k0 (by show k < 5; omega)]
    exact l2 k k0 kk
  · rw [hT 7 0 (by omega) (by show (0 : Int) < 1; omega), m0 17 (by omega) (by omega)]
    exact b1
  · rw [m0 17 (by omega) (by omega)] at kk
    rw [hM 18 k k0 (by show k < 20; omega), hM 19 k k0 (by show k < 20; omega)]
    exact b2 k k0 kk
  · rw [hT 6 c c0 (by show c < 6; omega), m0 17 (by omega) (by omega), b3 c c0 c1]
    exact bkS_congr (fun k hk => ⟨(hM 18 k (by omega) (by show (k : Int) < 20; omega)).symm, (hM 19 k (by omega) (by show (k : Int) < 20; omega)).symm⟩)
theorem RS_x {S S' T T' U U' M M' : Nat → Int → Int} {D : Int} (hS : EqN shN S S') (hT : EqN toN T T') (hU : EqN sdN U U') (hM : EqN mdI M M') (h : RS S T U M D) : RS S' T' U' M' D := by
  obtain ⟨h1, h2, ⟨u1, u2, u3, u4, u5, u6⟩, e1, e2⟩ := h
  have m0 : ∀ k, 0 ≤ k → k < 18 → M' 0 k = M 0 k := fun k k0 k1 => hM 0 k k0 k1
  refine ⟨RSh_x hS hM h1, RTo_x hT hM h2, ⟨?_, ?_, ?_, ?_, ?_, ?_⟩, ?_, fun e e0 ee => ?_⟩
  · rw [hU 7 0 (by omega) (by show (0 : Int) < 1; omega), m0 8 (by omega) (by omega)]
    exact u1
  · rw [hU 8 0 (by omega) (by show (0 : Int) < 1; omega), m0 9 (by omega) (by omega)]
    exact u2
  · rw [hU 9 0 (by omega) (by show (0 : Int) < 1; omega), m0 10 (by omega) (by omega)]
    exact u3
  · rw [hU 10 0 (by omega) (by show (0 : Int) < 1; omega), m0 11 (by omega) (by omega)]
    exact u4
  · rw [hU 11 0 (by omega) (by show (0 : Int) < 1; omega), m0 13 (by omega) (by omega)]
    exact u5
  · rw [hU 12 0 (by omega) (by show (0 : Int) < 1; omega), m0 14 (by omega) (by omega)]
    exact u6
  · rw [hU 6 0 (by omega) (by show (0 : Int) < 1; omega), m0 12 (by omega) (by omega)]
    exact e1
  · rw [m0 12 (by omega) (by omega)] at ee
    rw [hU 2 e e0 (by show e < 10; omega), hU 3 e e0 (by show e < 10; omega), hU 4 e e0 (by show e < 10; omega), hU 5 e e0 (by show e < 10; omega), hM 10 e e0 (by show e < 10; omega), hM 11 e e0 (by show e < 10; omega), hM 12 e e0 (by show e < 10; omega), hM 13 e e0 (by show e < 10; omega)]
    exact e2 e e0 ee
/-- what of o is as in o1 by now -/
def CP (o o1 : Nat) (n : Nat → Int → Prop) (s t : Mem) : Prop := FrJ o (fun _ => True) s t ∧ ∀ j k, n j k → t o j k = s o1 j k
theorem CP.st {o o1 j : Nat} {n n' : Nat → Int → Prop} {s t u : Mem} {i : Int} (hne : ¬ o1 = o) (h : CP o o1 n s t) (hu : u = updM t o j i (t o1 j i)) (hn : ∀ j' k', n' j' k' → n j' k' ∨ (j' = j ∧ k' = i)) : CP o o1 n' s u := by
  obtain ⟨a1, a2, a3⟩ := updM_f hu
  refine ⟨⟨fun o' q => by rw [a1 o' q, h.1.1 o' q], fun _ q => absurd trivial q⟩, fun j' k' q => ?_⟩
  by_cases e : j' = j
  · subst e
    rw [a3]
    by_cases e2 : k' = i
    · rw [uA_e _ e2, e2, h.1.1 o1 hne]
    · rw [uA_n _ e2]
      rcases hn _ _ q with z | z
      · exact h.2 _ _ z
      · exact absurd z.2 e2
  · rw [a2 j' e]
    rcases hn _ _ q with z | z
    · exact h.2 _ _ z
    · exact absurd z.1 e
theorem p_sh_copyFrom {o o1 : Nat} {s : Mem} {Q : Mem → Prop} (ho : cls o = 5) (ho1 : cls o1 = 5) (hne : ¬ o1 = o) (h : ∀ t, (∀ o', ¬ o' = o → t o' = s o') → EqN shN (s o1) (t o) → Q t) : W_sh_copyFrom o o1 s Q := by
  refine w_sh_copyFrom (b_sh_copyFrom_0 ho ho1 ?_)
  have c3 : ∀ i : Int, ∀ t, 0 ≤ i → i ≤ 8 → CP o o1 (fun j k => (k = 0 ∧ (j = 4 ∨ (7 ≤ j ∧ j ≤ 10) ∨ (14 ≤ j ∧ j ≤ 16))) ∨ (j < 4 ∧ 0 ≤ k ∧ k < 12) ∨ ((j = 5 ∨ j = 6) ∧ 0 ≤ k ∧ k < 16) ∨ ((j = 11 ∨ j = 12 ∨ j = 13) ∧ 0 ≤ k ∧ k < i)) s t → K_sh_copyFrom_166 Q o o1 i t := by
    refine fun i => ind_up (P := fun i => ∀ t, 0 ≤ i → i ≤ 8 → CP o o1 (fun j k => (k = 0 ∧ (j = 4 ∨ (7 ≤ j ∧ j ≤ 10) ∨ (14 ≤ j ∧ j ≤ 16))) ∨ (j < 4 ∧ 0 ≤ k ∧ k < 12) ∨ ((j = 5 ∨ j = 6) ∧ 0 ≤ k ∧ k < 16) ∨ ((j = 11 ∨ j = 12 ∨ j = 13) ∧ 0 ≤ k ∧ k < i)) s t → K_sh_copyFrom_166 Q o o1 i t) 8 (fun i ih t h0 h1 hC => ?_) i
    refine b_sh_copyFrom_166 ho ho1 ?_
    unfold T_sh_copyFrom_166
    rw [wr_id (x := i) (by omega) (by omega)]
    refine ⟨fun c => h t hC.1.1 (fun j k k0 k1 => hC.2 j k ?_), fun c => ⟨by omega, by omega, fun s2 x2 => ⟨by omega, by omega, fun s3 x3 => ⟨by omega, by omega, fun s4 x4 => ?_⟩⟩⟩⟩
    · unfold shN at k1
      (repeat' split at k1) <;> omega
    · exact ih (by omega) s4 (by omega) (by omega) (((hC.st hne x2 (fun _ _ q => q)).st hne x3 (fun _ _ q => q)).st hne x4 (fun j' k' q => by omega))
  have c2 : ∀ i : Int, ∀ t, 0 ≤ i → i ≤ 16 → CP o o1 (fun j k => (k = 0 ∧ (j = 4 ∨ (7 ≤ j ∧ j ≤ 10) ∨ (14 ≤ j ∧ j ≤ 16))) ∨ (j < 4 ∧ 0 ≤ k ∧ k < 12) ∨ ((j = 5 ∨ j = 6) ∧ 0 ≤ k ∧ k < i)) s t → K_sh_copyFrom_128 Q o o1 i t := by
    refine fun i => ind_up (P := fun i => ∀ t, 0 ≤ i → i ≤ 16 → CP o o1 (fun j k => (k = 0 ∧ (j = 4 ∨ (7 ≤ j ∧ j ≤ 10) ∨ (14 ≤ j ∧ j ≤ 16))) ∨ (j < 4 ∧ 0 ≤ k ∧ k < 12) ∨ ((j = 5 ∨ j = 6) ∧ 0 ≤ k ∧ k < i)) s t → K_sh_copyFrom_128 Q o o1 i t) 16 (fun i ih t h0 h1 hC => ?_) i
    refine b_sh_copyFrom_128 ho ho1 ?_
    unfold T_sh_copyFrom_128 T_sh_copyFrom_164
    rw [wr_id (x := i) (by omega) (by omega)]
    refine ⟨fun c => c3 0 t (by omega) (by omega) ⟨hC.1, fun j k q => hC.2 j k (by omega)⟩, fun c => ⟨by omega, by omega, fun s2 x2 => ⟨by omega, by omega, fun s3 x3 => ?_⟩⟩⟩
    exact ih (by omega) s3 (by omega) (by omega) ((hC.st hne x2 (fun _ _ q => q)).st hne x3 (fun j' k' q => by omega))
  have c1 : ∀ i : Int, ∀ t, 0 ≤ i → i ≤ 12 → CP o o1 (fun j k => (k = 0 ∧ (j = 4 ∨ (7 ≤ j ∧ j ≤ 10) ∨ (14 ≤ j ∧ j ≤ 16))) ∨ (j < 4 ∧ 0 ≤ k ∧ k < i)) s t → K_sh_copyFrom_66 Q o o1 i t := by
    refine fun i => ind_up (P := fun i => ∀ t, 0 ≤ i → i ≤ 12 → CP o o1 (fun j k => (k = 0 ∧ (j = 4 ∨ (7 ≤ j ∧ j ≤ 10) ∨ (14 ≤ j ∧ j ≤ 16))) ∨ (j < 4 ∧ 0 ≤ k ∧ k < i)) s t → K_sh_copyFrom_66 Q o o1 i t) 12 (fun i ih t h0 h1 hC => ?_) i
    refine b_sh_copyFrom_66 ho ho1 ?_
    unfold T_sh_copyFrom_66 T_sh_copyFrom_126
    rw [wr_id (x := i) (by omega) (by omega)]
    refine ⟨fun c => c2 0 t (by omega) (by omega) ⟨hC.1, fun j k q => hC.2 j k (by omega)⟩, fun c => ⟨by omega, by omega, fun s2 x2 => ⟨by omega, by omega, fun s3 x3 => ⟨by omega, by omega, fun s4 x4 => ⟨by omega, by omega, fun s5 x5 => ?_⟩⟩⟩⟩⟩
    exact ih (by omega) s5 (by omega) (by omega) ((((hC.st hne x2 (fun _ _ q => q)).st hne x3 (fun _ _ q => q)).st hne x4 (fun _ _ q => q)).st hne x5 (fun j' k' q => by omega))
  intro s1 x1 s2 x2 s3 x3 s4 x4 s5 x5 s6 x6 s7 x7 s8 x8
  have z : CP o o1 (fun _ _ => False) s s := ⟨FrJ.rf, fun _ _ q => absurd q id⟩
  exact c1 0 s8 (by omega) (by omega) ((((((((z.st hne x1 (fun _ _ q => q)).st hne x2 (fun _ _ q => q)).st hne x3 (fun _ _ q => q)).st hne x4 (fun _ _ q => q)).st hne x5 (fun _ _ q => q)).st hne x6 (fun _ _ q => q)).st hne x7 (fun _ _ q => q)).st hne x8 (fun j' k' q => by
    simp only [false_or]
    omega))
