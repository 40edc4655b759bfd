/-! ===== CLAUSES, the reference's side ===== -/
theorem RR_m {R m : Nat → Int → Int} {r : Int} (h : RR R m r) : ∀ k, 0 ≤ k → k < R 1 0 → m 44 (300 * r + k) = kap (R 0 k % 16) ∧ m 45 (300 * r + k) = R 0 k / 16 := fun k k0 k1 => by
  obtain ⟨-, -, -, d⟩ := h.2.1 k k0 k1
  exact d
theorem p_md_holds {c r : Int} {R : Nat → Int → Int} {s : Mem} {Q : Int → Mem → Prop} (hr : 0 ≤ r ∧ r < 6) (hR : RR R (s 34) r) (hc : 0 ≤ c ∧ c < R 6 0)
    (h : ∀ t, FrJ 34 (fun j => j = 53) s t → Q (b2 (hld R (s 34 52) c)) t) : W_md_holds r (12 * r + c) s Q := by
  obtain ⟨⟨-, hS⟩, hb, h2⟩ := RR_cl hR hc
  have hm := RR_m hR
  obtain ⟨⟨r1, -⟩, -, hcl⟩ := hR
  obtain ⟨-, ⟨m1, m2, m3⟩, -, -, hck, -⟩ := hcl c hc.1 hc.2
  refine w_md_holds (b_md_holds_0 ?_)
  unfold T_md_holds_0 T_md_holds_41 T_md_holds_37 T_md_holds_42
  rw [wr_id (x := 12 * r + c) (by omega) (by omega), m2, m3, wr_id (x := R 4 c) (by omega) (by omega), wr_id (x := R 5 c) (by omega) (by omega)]
  refine ⟨by omega, by omega, fun q => ?_, fun q => ⟨by omega, by omega, ?_⟩⟩
  · have h := h s FrJ.rf
    rw [b2_t (Or.inl q)] at h
    exact ⟨Or.inr rfl, h⟩
  · refine p_md_answer (f := R 0) (kf := true) hr hS (fun k k0 k1 => hm k (by omega) (by omega)) (hck (by omega)) (fun t x hF he hx => ?_)
    have ex := ev1_of he
    have h := h t hF
    have hx := hx rfl
    rw [lcp_n1 hx]
    refine ⟨fun q2 => ?_, fun q2 => ?_⟩
    · rw [b2_f (fun z => z.elim (fun z => by omega) (fun z => by omega))] at h
      exact ⟨Or.inl rfl, h⟩
    · rw [b2_t (Or.inr (by omega))] at h
      exact ⟨Or.inr rfl, h⟩
theorem RR_st {R : Nat → Int → Int} {s t : Mem} {r : Int} (h : RR R (s 34) r) (hF : FrJ 34 (fun j => j = 53) s t) : RR R (t 34) r := RR_R (fun _ _ => rfl) (fun j j0 j1 => hF.2 j (by omega)) h
def cfm (r c : Int) : Int := if c = -1 then -1 else 12 * r + c
theorem p_md_clauseOf {r : Int} {R : Nat → Int → Int} {s : Mem} {Q : Int → Mem → Prop} (hr : 0 ≤ r ∧ r < 6) (hR : RR R (s 34) r)
    (h : ∀ t, FrJ 34 (fun j => j = 53) s t → Q (cfm r (cfo R (s 34 52) (R 6 0).toNat 0)) t) : W_md_clauseOf r s Q := by
  have hRb := hR.1.1
  refine w_md_clauseOf (b_md_clauseOf_0 ?_)
  have loop : ∀ i : Int, ∀ t, 0 ≤ i → i ≤ R 6 0 → FrJ 34 (fun j => j = 53) s t → cfo R (s 34 52) (R 6 0).toNat 0 = cfo R (s 34 52) (R 6 0 - i).toNat i → K_md_clauseOf_5 Q r (12 * r + i) t := by
    refine fun i => ind_up (P := fun i => ∀ t, 0 ≤ i → i ≤ R 6 0 → FrJ 34 (fun j => j = 53) s t → cfo R (s 34 52) (R 6 0).toNat 0 = cfo R (s 34 52) (R 6 0 - i).toNat i → K_md_clauseOf_5 Q r (12 * r + i) t) (R 6 0) (fun i ih t h0 h1 hF hE2 => ?_) i
    have hRt := RR_st hR hF
    have ew : t 34 52 = s 34 52 := hF.2 52 (by omega)
    have e46 : t 34 46 r = R 6 0 := hRt.1.2.1
    refine b_md_clauseOf_5 ?_
    unfold T_md_clauseOf_5 T_md_clauseOf_46 T_md_clauseOf_40
    rw [wr_id (x := r) (by omega) (by omega), e46, wr_id (x := 12 * r + R 6 0) (by omega) (by omega), wr_id (x := 12 * r + i) (by omega) (by omega)]
    refine ⟨by omega, fun c => ?_, fun c => ⟨by omega, ?_⟩⟩
    · rw [show (R 6 0 - i).toNat = 0 by omega] at hE2
      have h := h t hF
      rw [hE2] at h
      exact h
    · obtain ⟨hk, -⟩ := hRt.2.2 i h0 (by omega)
      have e47 : wr (t 34 47 (12 * r + i)) = t 34 47 (12 * r + i) := wr_id (by omega) (by omega)
      rw [e47]
      rw [show (R 6 0 - i).toNat = (R 6 0 - (i + 1)).toNat + 1 by omega] at hE2
      rw [cfo_1] at hE2
      have ih := ih (by omega)
      have ei : 12 * r + i + 1 = 12 * r + (i + 1) := by omega
      rw [ei]
      refine ⟨fun q => ih t (by omega) (by omega) hF ?_, fun q => ?_⟩
      · rw [if_neg (fun z => by omega)] at hE2
        exact hE2
      · refine p_md_holds hr hRt ⟨h0, by omega⟩ (fun u hFu => zt (fun q3 => ?_) (fun q3 => ?_))
        · rw [ew] at q3
          rw [if_pos ⟨by omega, q3⟩] at hE2
          have h := h u (hF.tr hFu)
          rw [hE2] at h
          unfold cfm at h
          rw [if_neg (by omega)] at h
          exact h
        · rw [ew] at q3
          rw [if_neg (fun z => q3 z.2)] at hE2
          exact ih u (by omega) (by omega) (hF.tr hFu) hE2
  have := loop 0 s (by omega) hRb.1 FrJ.rf (by rw [show R 6 0 - 0 = R 6 0 by omega])
  rw [show 12 * r + 0 = 12 * r by omega] at this
  exact this
theorem p_md_isGiven {r : Int} {R : Nat → Int → Int} {s : Mem} {Q : Int → Mem → Prop} (hr : 0 ≤ r ∧ r < 6) (hR : RR R (s 34) r)
    (h : ∀ t, FrJ 34 (fun j => j = 53) s t → Q (gvs R (s 34 52) (R 6 0).toNat 0) t) : W_md_isGiven r s Q := by
  have hRb := hR.1.1
  refine w_md_isGiven (b_md_isGiven_0 ?_)
  have loop : ∀ i : Int, ∀ (g : Int) (t : Mem), 0 ≤ i → i ≤ R 6 0 → (g = 0 ∨ g = 1) → FrJ 34 (fun j => j = 53) s t → gvs R (s 34 52) (R 6 0).toNat 0 = (if g = 1 then 1 else gvs R (s 34 52) (R 6 0 - i).toNat i) → K_md_isGiven_7 Q r g (12 * r + i) t := by
    refine fun i => ind_up (P := fun i => ∀ (g : Int) (t : Mem), 0 ≤ i → i ≤ R 6 0 → (g = 0 ∨ g = 1) → FrJ 34 (fun j => j = 53) s t → gvs R (s 34 52) (R 6 0).toNat 0 = (if g = 1 then 1 else gvs R (s 34 52) (R 6 0 - i).toNat i) → K_md_isGiven_7 Q r g (12 * r + i) t) (R 6 0) (fun i ih g t h0 h1 hg hF hE2 => ?_) i
    have hRt := RR_st hR hF
    have ew : t 34 52 = s 34 52 := hF.2 52 (by omega)
    have e46 : t 34 46 r = R 6 0 := hRt.1.2.1
    refine b_md_isGiven_7 ?_
    unfold T_md_isGiven_7 T_md_isGiven_57 T_md_isGiven_50 T_md_isGiven_49
    rw [wr_id (x := r) (by omega) (by omega), e46, wr_id (x := 12 * r + R 6 0) (by omega) (by omega), wr_id (x := 12 * r + i) (by omega) (by omega), wr_id (x := g) (by omega) (by omega)]
    refine ⟨by omega, fun c => ⟨hg, ?_⟩, fun c => ⟨fun q => ⟨hg, ?_⟩, fun q => ⟨by omega, ?_⟩⟩⟩
    · rw [show (R 6 0 - i).toNat = 0 by omega] at hE2
      have h := h t hF
      rw [hE2] at h
      rcases hg with q | q
      · subst q
        exact h
      · subst q
        exact h
    · rw [if_pos (by omega)] at hE2
      have h := h t hF
      rw [hE2] at h
      rw [show g = 1 by omega]
      exact h
    · obtain ⟨hk, -⟩ := hRt.2.2 i h0 (by omega)
      have e47 : wr (t 34 47 (12 * r + i)) = t 34 47 (12 * r + i) := wr_id (by omega) (by omega)
      rw [e47]
      rw [if_neg (by omega), show (R 6 0 - i).toNat = (R 6 0 - (i + 1)).toNat + 1 by omega] at hE2
      rw [gvs_1] at hE2
      have ih := ih (by omega)
      have ei : 12 * r + i + 1 = 12 * r + (i + 1) := by omega
      unfold T_md_isGiven_50
      rw [ei]
      refine ⟨fun q => ih 0 t (by omega) (by omega) (Or.inl rfl) hF ?_, fun q => ?_⟩
      · rw [if_neg (fun z => by omega)] at hE2
        exact hE2
      · refine p_md_holds hr hRt ⟨h0, by omega⟩ (fun u hFu => zt (fun q3 => ?_) (fun q3 => ?_))
        · rw [ew] at q3
          rw [if_pos ⟨by omega, q3⟩] at hE2
          exact ih 1 u (by omega) (by omega) (Or.inr rfl) (hF.tr hFu) hE2
        · rw [ew] at q3
          rw [if_neg (fun z => q3 z.2)] at hE2
          exact ih 0 u (by omega) (by omega) (Or.inl rfl) (hF.tr hFu) hE2
  have := loop 0 0 s (by omega) hRb.1 (Or.inl rfl) FrJ.rf (by rw [show R 6 0 - 0 = R 6 0 by omega]; rfl)
  rw [show 12 * r + 0 = 12 * r by omega] at this
  exact this
