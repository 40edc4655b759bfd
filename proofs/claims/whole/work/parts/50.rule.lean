/-! ===== which CLAUSE, and whether it gives ===== -/
def ev1 (f wd : Int → Int) (a b : Int) : Int := (evl f wd (b - a).toNat a []).headD 0
theorem ev1_of {f wd : Int → Int} {a b x : Int} (h : evl f wd (b - a).toNat a [] = [x]) : ev1 f wd a b = x := by
  unfold ev1
  rw [h]
  rfl
def wd9 (wd wd' : Int → Int) : Prop := ∀ k, 0 ≤ k → k < 9 → wd k = wd' k
theorem evl_wd {f wd wd' : Int → Int} (hw : wd9 wd wd') : ∀ (n : Nat) (i : Int) (t : List Int), (∀ k, i ≤ k → k < i + n → 0 ≤ f k / 16 ∧ (f k % 16 = 1 → f k / 16 < 9)) → evl f wd n i t = evl f wd' n i t
  | 0, _, _, _ => rfl
  | n + 1, i, t, h => by
    show evl f wd n (i + 1) (st1 wd (f i % 16) (f i / 16) t) = evl f wd' n (i + 1) (st1 wd' (f i % 16) (f i / 16) t)
    have e : st1 wd (f i % 16) (f i / 16) t = st1 wd' (f i % 16) (f i / 16) t := by
      obtain ⟨h1, h2⟩ := h i (by omega) (by omega)
      unfold st1
      by_cases c : f i % 16 = 1
      · have q0 : ¬ f i % 16 = 0 := by omega
        rw [if_neg q0, if_pos c, if_neg q0, if_pos c, hw _ h1 (h2 c)]
      · rw [if_neg c, if_neg c]
    rw [e]
    exact evl_wd hw n (i + 1) _ (fun k k0 k1 => h k (by omega) (by omega))
theorem ev1_wd {f wd wd' : Int → Int} {a b : Int} (hw : wd9 wd wd') (hS : STP f a b) : ev1 f wd a b = ev1 f wd' a b := by
  unfold ev1
  rw [evl_wd hw _ _ _ (fun k k0 k1 => ?_)]
  obtain ⟨⟨a0, ab, b3⟩, hS⟩ := hS
  obtain ⟨-, v0, w0⟩ := hS k k0 (by omega)
  exact ⟨v0.1, w0⟩
abbrev hld (R : Nat → Int → Int) (wd : Int → Int) (c : Int) : Prop := R 4 c = R 5 c ∨ ev1 (R 0) wd (R 4 c) (R 5 c) = 1
def cfo (R : Nat → Int → Int) (wd : Int → Int) : Nat → Int → Int
  | 0, _ => -1
  | n + 1, i => if R 2 i = 1 ∧ hld R wd i then i else cfo R wd n (i + 1)
def gvs (R : Nat → Int → Int) (wd : Int → Int) : Nat → Int → Int
  | 0, _ => 0
  | n + 1, i => if R 2 i = 0 ∧ hld R wd i then 1 else gvs R wd n (i + 1)
theorem cfo_1 (R : Nat → Int → Int) (wd : Int → Int) (n : Nat) (i : Int) : cfo R wd (n + 1) i = if R 2 i = 1 ∧ hld R wd i then i else cfo R wd n (i + 1) := rfl
theorem gvs_1 (R : Nat → Int → Int) (wd : Int → Int) (n : Nat) (i : Int) : gvs R wd (n + 1) i = if R 2 i = 0 ∧ hld R wd i then 1 else gvs R wd n (i + 1) := rfl
theorem gvs_01 (R : Nat → Int → Int) (wd : Int → Int) : ∀ (n : Nat) (i : Int), gvs R wd n i = 0 ∨ gvs R wd n i = 1
  | 0, _ => Or.inl rfl
  | n + 1, i => by
    unfold gvs
    split
    · exact Or.inr rfl
    · exact gvs_01 R wd n (i + 1)
theorem cfo_bd (R : Nat → Int → Int) (wd : Int → Int) : ∀ (n : Nat) (i : Int), cfo R wd n i = -1 ∨ ((i ≤ cfo R wd n i ∧ cfo R wd n i < i + n) ∧ R 2 (cfo R wd n i) = 1)
  | 0, _ => Or.inl rfl
  | n + 1, i => by
    unfold cfo
    split
    · next h => exact Or.inr ⟨by omega, h.1⟩
    · rcases cfo_bd R wd n (i + 1) with q | q
      · exact Or.inl q
      · exact Or.inr ⟨by omega, q.2⟩
theorem RR_cl {R m : Nat → Int → Int} {r c : Int} (h : RR R m r) (hc : 0 ≤ c ∧ c < R 6 0) : (STP (R 0) (R 3 c) (R 4 c) ∧ STP (R 0) (R 4 c) (R 5 c)) ∧ (0 ≤ R 3 c ∧ R 3 c ≤ R 4 c ∧ R 4 c ≤ R 5 c ∧ R 5 c ≤ R 1 0) ∧ R 1 0 ≤ 299 := by
  obtain ⟨⟨a1, a2, a3, a4⟩, b, cc⟩ := h
  obtain ⟨-, -, c3, -⟩ := cc c hc.1 hc.2
  refine ⟨⟨⟨by omega, fun k k0 k1 => ?_⟩, by omega, fun k k0 k1 => ?_⟩, c3, a4⟩
  · obtain ⟨d1, d2, d3, -⟩ := b k (by omega) (by omega)
    exact ⟨d1, d2, d3⟩
  · obtain ⟨d1, d2, d3, -⟩ := b k (by omega) (by omega)
    exact ⟨d1, d2, d3⟩
theorem hld_wd {R m : Nat → Int → Int} {wd wd' : Int → Int} {r c : Int} (hw : wd9 wd wd') (h : RR R m r) (hc : 0 ≤ c ∧ c < R 6 0) : hld R wd c ↔ hld R wd' c := by
  unfold hld
  rw [ev1_wd hw (RR_cl h hc).1.2]
theorem cfo_wd {R m : Nat → Int → Int} {wd wd' : Int → Int} {r : Int} (hw : wd9 wd wd') (h : RR R m r) : ∀ (n : Nat) (i : Int), 0 ≤ i → i + n ≤ R 6 0 → cfo R wd n i = cfo R wd' n i
  | 0, _, _, _ => rfl
  | n + 1, i, h0, h1 => by
    have e := hld_wd hw h (c := i) ⟨h0, by omega⟩
    unfold cfo
    rw [cfo_wd hw h n (i + 1) (by omega) (by omega)]
    by_cases q : R 2 i = 1 ∧ hld R wd i
    · rw [if_pos q, if_pos ⟨q.1, e.mp q.2⟩]
    · rw [if_neg q, if_neg (fun z => q ⟨z.1, e.mpr z.2⟩)]
theorem gvs_wd {R m : Nat → Int → Int} {wd wd' : Int → Int} {r : Int} (hw : wd9 wd wd') (h : RR R m r) : ∀ (n : Nat) (i : Int), 0 ≤ i → i + n ≤ R 6 0 → gvs R wd n i = gvs R wd' n i
  | 0, _, _, _ => rfl
  | n + 1, i, h0, h1 => by
    have e := hld_wd hw h (c := i) ⟨h0, by omega⟩
    unfold gvs
    rw [gvs_wd hw h n (i + 1) (by omega) (by omega)]
    by_cases q : R 2 i = 0 ∧ hld R wd i
    · rw [if_pos q, if_pos ⟨q.1, e.mp q.2⟩]
    · rw [if_neg q, if_neg (fun z => q ⟨z.1, e.mpr z.2⟩)]
/-! the class's side -/
def EqR (R : Nat → Int → Int) (s : Mem) (o : Nat) : Prop := ∀ j, j < 7 → s o j = R j
theorem EqR.st {R : Nat → Int → Int} {s t : Mem} {o : Nat} (h : EqR R s o) (hF : FrJ o (fun j => j = 7) s t) : EqR R t o := fun j hj => (hF.2 j (by omega)).trans (h j hj)
theorem lcp_n0 {x : Int} (hx : x = 0 ∨ x = 1) : wr (lcp x 0) = 0 ↔ x = 0 := by
  rw [lcp_eq, wL_0]
  rcases hx with q | q <;> subst q <;> decide
theorem lcp_n1 {x : Int} (hx : x = 0 ∨ x = 1) : wr (lcp x 1) = 0 ↔ x = 1 := by
  rw [lcp_eq]
  rcases hx with q | q <;> subst q <;> decide
theorem p_ru_holds {o w : Nat} {c r : Int} {R m : Nat → Int → Int} {s : Mem} {Q : Int → Mem → Prop} (ho : cls o = 2) (hw : arrK 4 9 w 13) (hne : ¬ w = o) (hE : EqR R s o) (hR : RR R m r) (hc : 0 ≤ c ∧ c < R 6 0) (hlt : R 4 c < R 5 c)
    (h : ∀ t, FrJ o (fun j => j = 7) s t → Q (b2 (hld R (s w 13) c)) t) : W_ru_holds o c w 13 9 s Q := by
  obtain ⟨⟨-, hS⟩, hb, h2⟩ := RR_cl hR hc
  obtain ⟨⟨r1, -⟩, -, hcl⟩ := hR
  obtain ⟨-, -, -, -, hck, -⟩ := hcl c hc.1 hc.2
  have e0 := hE 0 (by omega)
  have e1 := hE 1 (by omega)
  refine w_ru_holds (b_ru_holds_0 ho hw ?_)
  unfold T_ru_holds_0 T_ru_holds_26 T_ru_holds_27
  rw [wr_id (x := c) (by omega) (by omega), hE 4 (by omega), hE 5 (by omega)]
  refine ⟨by omega, by omega, p_ru_run (kf := true) ho hw hne (by rw [e0]; exact hS) (by rw [e1]; omega) (by rw [e0]; exact hck hlt) (fun t x hF he hx => ?_)⟩
  rw [e0] at he
  have ex := ev1_of he
  have h := h t hF
  have hx := hx rfl
  rw [lcp_n0 hx]
  refine ⟨fun q => ?_, fun q => ?_⟩
  · rw [b2_f (fun z => z.elim (fun z => by omega) (fun z => by omega))] at h
    exact ⟨Or.inl rfl, h⟩
  · rw [b2_t (Or.inr (by omega))] at h
    exact ⟨Or.inr rfl, h⟩
theorem p_ru_sumOf {o w : Nat} {c r : Int} {R m : Nat → Int → Int} {s : Mem} {Q : Int → Mem → Prop} (ho : cls o = 2) (hw : arrK 4 9 w 13) (hne : ¬ w = o) (hE : EqR R s o) (hR : RR R m r) (hc : 0 ≤ c ∧ c < R 6 0) (hfr : R 2 c = 1)
    (h : ∀ t, FrJ o (fun j => j = 7) s t → Q (ev1 (R 0) (s w 13) (R 3 c) (R 4 c)) t) : W_ru_sumOf o c w 13 9 s Q := by
  obtain ⟨⟨hS, -⟩, hb, h2⟩ := RR_cl hR hc
  obtain ⟨⟨r1, -⟩, -, hcl⟩ := hR
  obtain ⟨-, -, -, hck, -⟩ := hcl c hc.1 hc.2
  have e0 := hE 0 (by omega)
  have e1 := hE 1 (by omega)
  refine w_ru_sumOf (b_ru_sumOf_0 ho hw ?_)
  unfold T_ru_sumOf_0
  rw [wr_id (x := c) (by omega) (by omega), hE 3 (by omega), hE 4 (by omega)]
  refine ⟨by omega, by omega, p_ru_run (kf := false) ho hw hne (by rw [e0]; exact hS) (by rw [e1]; omega) (by rw [e0]; exact hck hfr) (fun t x hF he hx => ?_)⟩
  rw [e0] at he
  have h := h t hF
  rw [ev1_of he] at h
  exact h
theorem p_ru_clauseFor {o w : Nat} {r : Int} {R m : Nat → Int → Int} {s : Mem} {Q : Int → Mem → Prop} (ho : cls o = 2) (hw : arrK 4 9 w 13) (hne : ¬ w = o) (hE : EqR R s o) (hR : RR R m r)
    (h : ∀ t, FrJ o (fun j => j = 7) s t → Q (cfo R (s w 13) (R 6 0).toNat 0) t) : W_ru_clauseFor o w 13 9 s Q := by
  have hRb := hR.1.1
  refine w_ru_clauseFor (b_ru_clauseFor_0 ho hw ?_)
  have loop : ∀ i : Int, ∀ t, 0 ≤ i → i ≤ R 6 0 → FrJ o (fun j => j = 7) s t → cfo R (s w 13) (R 6 0).toNat 0 = cfo R (s w 13) (R 6 0 - i).toNat i → K_ru_clauseFor_2 Q o w 13 9 i t := by
    refine fun i => ind_up (P := fun i => ∀ t, 0 ≤ i → i ≤ R 6 0 → FrJ o (fun j => j = 7) s t → cfo R (s w 13) (R 6 0).toNat 0 = cfo R (s w 13) (R 6 0 - i).toNat i → K_ru_clauseFor_2 Q o w 13 9 i t) (R 6 0) (fun i ih t h0 h1 hF hE2 => ?_) i
    have hEt := hE.st hF
    have ew : t w = s w := hF.1 w hne
    refine b_ru_clauseFor_2 ho hw ?_
    unfold T_ru_clauseFor_2 T_ru_clauseFor_51 T_ru_clauseFor_45 T_ru_clauseFor_43
    rw [hEt 6 (by omega), hEt 2 (by omega), hEt 4 (by omega), hEt 5 (by omega), wr_id (x := R 6 0) (by omega) (by omega), wr_id (x := i) (by omega) (by omega)]
    refine ⟨fun c => ?_, fun c => ⟨by omega, ?_⟩⟩
    · rw [show (R 6 0 - i).toNat = 0 by omega] at hE2
      have h := h t hF
      rw [hE2] at h
      exact h
    · obtain ⟨-, hb, h2⟩ := RR_cl hR (c := i) ⟨h0, by omega⟩
      obtain ⟨hk, -⟩ := hR.2.2 i h0 (by omega)
      rw [wr_id (x := R 2 i) (by omega) (by omega), wr_id (x := R 4 i) (by omega) (by omega), wr_id (x := R 5 i) (by omega) (by omega)]
      rw [show (R 6 0 - i).toNat = (R 6 0 - (i + 1)).toNat + 1 by omega] at hE2
      rw [cfo_1] at hE2
      have ih := ih (by omega)
      refine ⟨fun q => ih t (by omega) (by omega) hF ?_, fun q => ⟨by omega, by omega, fun q2 => ?_, fun q2 => ?_⟩⟩
      · rw [if_neg (fun z => by omega)] at hE2
        exact hE2
      · rw [if_pos ⟨by omega, Or.inl q2⟩] at hE2
        have h := h t hF
        rw [hE2] at h
        exact h
      · refine p_ru_holds ho hw hne hEt hR ⟨h0, by omega⟩ (by omega) (fun u hFu => zt (fun q3 => ?_) (fun q3 => ?_))
        · rw [ew] at q3
          rw [if_pos ⟨by omega, q3⟩] at hE2
          have h := h u (hF.tr hFu)
          rw [hE2] at h
          exact h
        · rw [ew] at q3
          rw [if_neg (fun z => q3 z.2)] at hE2
          exact ih u (by omega) (by omega) (hF.tr hFu) hE2
  exact loop 0 s (by omega) hRb.1 FrJ.rf (by rw [show R 6 0 - 0 = R 6 0 by omega])
theorem p_ru_gives {o w : Nat} {r : Int} {R m : Nat → Int → Int} {s : Mem} {Q : Int → Mem → Prop} (ho : cls o = 2) (hw : arrK 4 9 w 13) (hne : ¬ w = o) (hE : EqR R s o) (hR : RR R m r)
    (h : ∀ t, FrJ o (fun j => j = 7) s t → Q (gvs R (s w 13) (R 6 0).toNat 0) t) : W_ru_gives o w 13 9 s Q := by
  have hRb := hR.1.1
  refine w_ru_gives (b_ru_gives_0 ho hw ?_)
  have loop : ∀ i : Int, ∀ t, 0 ≤ i → i ≤ R 6 0 → FrJ o (fun j => j = 7) s t → gvs R (s w 13) (R 6 0).toNat 0 = gvs R (s w 13) (R 6 0 - i).toNat i → K_ru_gives_2 Q o w 13 9 i t := by
    refine fun i => ind_up (P := fun i => ∀ t, 0 ≤ i → i ≤ R 6 0 → FrJ o (fun j => j = 7) s t → gvs R (s w 13) (R 6 0).toNat 0 = gvs R (s w 13) (R 6 0 - i).toNat i → K_ru_gives_2 Q o w 13 9 i t) (R 6 0) (fun i ih t h0 h1 hF hE2 => ?_) i
    have hEt := hE.st hF
    have ew : t w = s w := hF.1 w hne
    refine b_ru_gives_2 ho hw ?_
    unfold T_ru_gives_2 T_ru_gives_36 T_ru_gives_30
    rw [hEt 6 (by omega), hEt 2 (by omega), wr_id (x := R 6 0) (by omega) (by omega), wr_id (x := i) (by omega) (by omega)]
    refine ⟨fun c => ?_, fun c => ⟨by omega, ?_⟩⟩
    · rw [show (R 6 0 - i).toNat = 0 by omega] at hE2
      have h := h t hF
      rw [hE2] at h
      exact h
    · obtain ⟨-, hb, h2⟩ := RR_cl hR (c := i) ⟨h0, by omega⟩
      obtain ⟨hk, -, -, -, -, hlt⟩ := hR.2.2 i h0 (by omega)
      rw [wr_id (x := R 2 i) (by omega) (by omega)]
      rw [show (R 6 0 - i).toNat = (R 6 0 - (i + 1)).toNat + 1 by omega] at hE2
      rw [gvs_1] at hE2
      have ih := ih (by omega)
      refine ⟨fun q => ih t (by omega) (by omega) hF ?_, fun q => ?_⟩
      · rw [if_neg (fun z => by omega)] at hE2
        exact hE2
      · have q : R 2 i = 0 := by omega
        refine p_ru_holds ho hw hne hEt hR ⟨h0, by omega⟩ (hlt q) (fun u hFu => zt (fun q3 => ?_) (fun q3 => ?_))
        · rw [ew] at q3
          rw [if_pos ⟨q, q3⟩] at hE2
          have h := h u (hF.tr hFu)
          rw [hE2] at h
          exact h
        · rw [ew] at q3
          rw [if_neg (fun z => q3 z.2)] at hE2
          exact ih u (by omega) (by omega) (hF.tr hFu) hE2
  exact loop 0 s (by omega) hRb.1 FrJ.rf (by rw [show R 6 0 - 0 = R 6 0 by omega])
