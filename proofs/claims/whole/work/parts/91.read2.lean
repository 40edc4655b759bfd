/-! ===== RULE: the class reads a SUM ===== -/
theorem FR.rf {s : Mem} : FR s s := fun _ _ => rfl
theorem FR.trn {s t u : Mem} (h : FR s t) (h2 : FR t u) : FR s u := FrO.tr h h2
theorem FR.f1 {s t : Mem} {S : Nat → Prop} (h : FrJ 1 S s t) : FR s t := fun o ho => h.1 o (by omega)
theorem FV.rf {s : Mem} : FV s s := fun _ _ _ => rfl
theorem FV.trn {s t u : Mem} (h : FV s t) (h2 : FV t u) : FV s u := fun j j0 j1 => (h2 j j0 j1).trans (h j j0 j1)
theorem FV.f1 {s t : Mem} {o : Nat} {S : Nat → Prop} (h : FrJ o S s t) (ho : ¬ 22 = o) : FV s t := fun j _ _ => by rw [h.1 22 ho]
theorem FWt.rf {s : Mem} : FWt s s := fun _ _ _ => rfl
theorem FWt.trn {s t u : Mem} (h : FWt s t) (h2 : FWt t u) : FWt s u := fun j j0 j1 => (h2 j j0 j1).trans (h j j0 j1)
theorem FWt.f1 {s t : Mem} {o : Nat} {S : Nat → Prop} (h : FrJ o S s t) (ho : ¬ 22 = o) : FWt s t := fun j _ _ => by rw [h.1 22 ho]
theorem FV.w {s t : Mem} (h : FV s t) : FWt s t := fun j j0 j1 => h j (by omega) j1
theorem CS.mv {s t : Mem} {T : Int → Int} {N p c n q p' : Int} (h : CS s T N p c n q) (hF : FrJ 1 (fun j => j = 2) s t) (hC : CXx t T N p') : CS t T N p' c n q := by
  obtain ⟨_, h2, h3, h4, h5⟩ := h
  rw [← hF.1 22 (by omega)] at h2
  rw [← hF.1 23 (by omega)] at h3 h4 h5
  exact ⟨hC, h2, h3, h4, h5⟩
theorem CE.mv {s t : Mem} {T : Int → Int} {N p c n q : Int} (h : CS s T N p c n q) (hF : FrJ 1 (fun j => j = 2) s t) : CE s t [] := CE.eq h.own (hF.1 23 (by omega))
theorem p_rr_readBetween {s : Mem} {T : Int → Int} {N p : Int} {Q : Int → Mem → Prop} (hT : TX T N) (hC : CXx s T N p) (hp : 0 ≤ p ∧ p ≤ N) (h : ∀ t, FrJ 1 (fun j => j = 2) s t → CXx t T N (if btw (pk T N p) = -1 then p else p + 1) → Q (btw (pk T N p)) t) : W_rr_readBetween s Q := by
  have hpk := pk_bd hT (p := p) (by omega)
  refine w_rr_readBetween (b_rr_readBetween_0 (p_tx_peek hT hC (by omega) ?_))
  generalize pk T N p = x at h hpk
  unfold T_rr_readBetween_74 T_rr_readBetween_90 T_rr_readBetween_64 T_rr_readBetween_79 T_rr_readBetween_84 T_rr_readBetween_69 T_rr_readBetween_92
  rw [wr_id (x := x) (by omega) (by omega)]
  have none : ¬ (x = 42 ∨ x = 47 ∨ x = 37 ∨ x = 43 ∨ x = 45) → Q (-1) s := fun z => by
    have e : btw x = -1 := by
      unfold btw
      rw [if_neg (by omega), if_neg (by omega), if_neg (by omega), if_neg (by omega), if_neg (by omega)]
    have h := h s FrJ.rf
    rw [e, if_pos rfl] at h
    exact h hC
  have some : ∀ k, btw x = k → ¬ k = -1 → W_tx_step s (fun s1 => Q k s1) := fun k e hk => p_tx_step hC (fun t F C => by
    have h := h t F
    rw [e, if_neg hk] at h
    exact h C)
  refine ⟨⟨fun z => ?_, fun z => none (by omega), fun z => none (by omega), fun z => none (by omega), fun z => none (by omega), fun z => ?_, fun z => ?_, fun z => none (by omega), fun z => ?_, fun z => none (by omega), fun z => ?_, trivial⟩, fun z => none (by omega)⟩
  · subst z; exact some 4 rfl (by decide)
  · subst z; exact some 2 rfl (by decide)
  · subst z; exact some 5 rfl (by decide)
  · subst z; exact some 6 rfl (by decide)
  · subst z; exact some 3 rfl (by decide)
theorem btw_c (x : Int) : btw x = -1 ∨ btw x = 2 ∨ btw x = 3 ∨ btw x = 4 ∨ btw x = 5 ∨ btw x = 6 := by
  unfold btw
  (repeat' split) <;> omega
def pd (a : Int) : Int := if a = -1 then 0 else 1
theorem opE_len (a : Int) : ((opE a).length : Int) = pd a := by
  unfold opE pd
  split <;> rfl
/-- an entry that waits, or none -/
theorem p_opE {a : Int} {s : Mem} {T : Int → Int} {N p c n q : Int} {Q : Mem → Prop} (hS : CS s T N p c n q) (hn : 0 ≤ n ∧ n + pd a ≤ 400) (hq : 1 ≤ q ∧ q ≤ 12) (h : ∀ t, FrJ 23 (fun j => j = 0 ∨ j = 1 ∨ j = 5) s t → CE s t (opE a) → CS t T N p c (n + pd a) q → Q t) : (a = -1 → Q s) ∧ (¬ a = -1 → W_ru_append 23 a 0 s Q) := by
  unfold opE pd at h
  refine ⟨fun z => ?_, fun z => ?_⟩
  · rw [if_pos z, if_pos z] at h
    exact h s FrJ.rf (CE.rf hS.own) (by rw [show n + 0 = n by omega]; exact hS)
  · rw [if_neg z, if_neg z] at h
    unfold pd at hn
    rw [if_neg z] at hn
    exact p_ru_append hS (by omega) hq h
theorem p_rr_readSumL {T : Int → Int} {N q : Int} {Q : Int → Mem → Prop} (hT : TX T N) (hq : 1 ≤ q ∧ q ≤ 12) :
    ∀ (f : Nat) (a1 a2 a3 p c n : Int) (s : Mem), c + f = 61 → 0 ≤ a3 → a3 ≤ c → CS s T N p c n q → (0 ≤ p ∧ p ≤ N) → (0 ≤ n ∧ n + pd a1 + pd a2 + 2 * (61 - c) ≤ 399) → (a1 = -1 ∨ a1 = 2 ∨ a1 = 3 ∨ a1 = 4) → (a2 = -1 ∨ a2 = 5 ∨ a2 = 6) → c ≤ 60 →
    (∀ t r p' c' E, FR s t → FV s t → (0 ≤ r ∧ r ≤ 5000) → smC T N f a1 a2 p c r p' c' E → (r = 0 → CE s t E ∧ CS t T N p' c' (n + (E.length : Int)) q ∧ (0 ≤ p' ∧ p' ≤ N) ∧ c' ≤ 60) → Q r t) → K_rr_readSum_7 Q a1 a2 a3 s
  | 0, _, _, _, _, c, _, _, hc, _, _, _, _, _, _, _, hc2, _ => by omega
  | f + 1, a1, a2, a3, p, c, n, s, hc, h0, h3, hS, hp, hn, hk1, hk2, hc2, h => by
    have pd1 : 0 ≤ pd a1 ∧ pd a1 ≤ 1 := by unfold pd; split <;> omega
    have pd2 : 0 ≤ pd a2 ∧ pd a2 ≤ 1 := by unfold pd; split <;> omega
    refine b_rr_readSum_7 ?_
    unfold T_rr_readSum_7 T_rr_readSum_29
    rw [wr_id (x := a3) (by omega) (by omega), wr_id (x := a1) (by omega) (by omega)]
    refine ⟨fun z => by omega, fun _ => p_rr_readValue hT hS hp (by omega) hq (by omega) (fun t r pv e f1 f2 rb hv hr _ => ?_)⟩
    rw [wr_id (x := r) (by omega) (by omega)]
    refine ⟨fun z => ?_, fun z => h t r 0 0 [] f1 f2 rb ⟨r, pv, e, hv, Or.inl ⟨z, rfl⟩⟩ (fun w => absurd w z)⟩
    subst z
    obtain ⟨E1, S1⟩ := hr rfl
    obtain ⟨v1, v2, v3, v4, v5⟩ := vlC_ok hp hv
    have hnb := sc_bd (P := blT T) v2.2
    -- behind the value and its sign
    have rest : ∀ u, FR s u → FV s u → CE s u (e :: opE a1) → CS u T N pv (c + 1) (n + 1 + pd a1) q → T_rr_readSum_45 Q (-1) a2 a3 u := fun u g1 g2 hE hSu => by
      unfold T_rr_readSum_45 T_rr_readSum_75 T_rr_readSum_81 T_rr_readSum_95 T_rr_readSum_103 T_rr_readSum_106
      rw [wr_id (x := a2) (by omega) (by omega)]
      refine p_tx_next hT hSu.1 v2 (fun w1 F1 C1 => p_rr_readBetween hT C1 (by omega) (fun w2 F2 C2 => ?_))
      have Fw := F1.tr F2
      have Sw := hSu.mv Fw C2
      have Ew : CE s w2 (e :: opE a1) := by
        have := hE.tr (CE.mv hSu Fw)
        rw [List.append_nil] at this
        exact this
      have Gw : FR s w2 := g1.trn (FR.f1 Fw)
      have Hw : FV s w2 := g2.trn (FV.f1 Fw (by omega))
      have hbt := btw_c (pk T N (sc (blT T) N pv))
      have hbp := btw_pk (T := T) (N := N) (p := sc (blT T) N pv)
      generalize hB : btw (pk T N (sc (blT T) N pv)) = bt at hbt hbp Sw C2 ⊢
      have hlen : ((e :: opE a1).length : Int) = 1 + pd a1 := by
        rw [List.length_cons, ← opE_len]
        omega
      have mul : bt = 2 ∨ bt = 3 ∨ bt = 4 → K_rr_readSum_7 Q bt a2 (a3 + 1) w2 := fun z => by
        rw [if_neg (by omega)] at Sw
        have pdb : pd bt = 1 := if_neg (by omega)
        refine p_rr_readSumL hT hq f bt a2 (a3 + 1) _ (c + 1) _ w2 (by omega) (by omega) (by omega) Sw (by have := hbp (by omega); omega) (by rw [pdb]; omega) (by omega) hk2 (by omega) (fun t' r' p' c' E' i1 i2 i3 i4 i5 => ?_)
        refine h t' r' p' c' ((e :: opE a1) ++ E') (Gw.trn i1) (Hw.trn i2) i3 ⟨0, pv, e, hv, Or.inr ⟨rfl, Or.inl ⟨by rw [hB]; exact z, E', by rw [hB]; exact i4, rfl⟩⟩⟩ (fun z0 => ?_)
        obtain ⟨k1, k2, k3⟩ := i5 z0
        refine ⟨Ew.tr k1, ?_, k3⟩
        rw [List.length_append, show n + (((e :: opE a1).length + E'.length : Nat) : Int) = n + 1 + pd a1 + (E'.length : Int) by omega]
        exact k2
      have add : (bt = 5 ∨ bt = 6 ∨ bt = -1) → ∀ w3, FrJ 23 (fun j => j = 0 ∨ j = 1 ∨ j = 5) w2 w3 → CE w2 w3 (opE a2) → CS w3 T N (if bt = -1 then sc (blT T) N pv else sc (blT T) N pv + 1) (c + 1) (n + 1 + pd a1 + pd a2) q → (¬ bt = -1 → K_rr_readSum_7 Q (-1) bt (a3 + 1) w3) ∧ (¬ (¬ bt = -1) → Q 0 w3) := fun z w3 F3 E3 S3 => by
        have Gw3 : FR s w3 := Gw.trn (fun o ho => F3.1 o (by omega))
        have Hw3 : FV s w3 := Hw.trn (FV.f1 F3 (by omega))
        have Ew3 := Ew.tr E3
        have hl3 : (((e :: opE a1) ++ opE a2).length : Int) = 1 + pd a1 + pd a2 := by
          rw [List.length_append, ← opE_len a2]
          omega
        refine ⟨fun z1 => ?_, fun z1 => ?_⟩
        · rw [if_neg z1] at S3
          have pdb : pd bt = 1 := if_neg z1
          have pdm : pd (-1) = 0 := rfl
          refine p_rr_readSumL hT hq f (-1) bt (a3 + 1) _ (c + 1) _ w3 (by omega) (by omega) (by omega) S3 (by have := hbp z1; omega) (by rw [pdb, pdm]; omega) (by omega) (by omega) (by omega) (fun t' r' p' c' E' i1 i2 i3 i4 i5 => ?_)
          refine h t' r' p' c' (((e :: opE a1) ++ opE a2) ++ E') (Gw3.trn i1) (Hw3.trn i2) i3 ⟨0, pv, e, hv, Or.inr ⟨rfl, Or.inr (Or.inl ⟨by rw [hB]; omega, E', by rw [hB]; exact i4, rfl⟩)⟩⟩ (fun z0 => ?_)
          obtain ⟨k1, k2, k3⟩ := i5 z0
          refine ⟨Ew3.tr k1, ?_, k3⟩
          rw [List.length_append, show n + ((((e :: opE a1) ++ opE a2).length + E'.length : Nat) : Int) = n + 1 + pd a1 + pd a2 + (E'.length : Int) by omega]
          exact k2
        · have z2 := Decidable.byContradiction z1
          rw [if_pos z2] at S3
          refine h w3 0 (sc (blT T) N pv) (c + 1) ((e :: opE a1) ++ opE a2) Gw3 Hw3 (by omega) ⟨0, pv, e, hv, Or.inr ⟨rfl, Or.inr (Or.inr ⟨by rw [hB]; exact z2, rfl, rfl, rfl, rfl⟩)⟩⟩ (fun _ => ⟨Ew3, ?_, by omega, by omega⟩)
          rw [hl3, show n + (1 + pd a1 + pd a2) = n + 1 + pd a1 + pd a2 by omega]
          exact S3
      rw [wr_id (x := bt) (by omega) (by omega)]
      refine ⟨fun z => mul (by omega), fun z => ⟨fun z2 => mul (by omega), fun z2 => ⟨fun z3 => ?_, fun z3 => mul (by omega)⟩⟩⟩
      exact p_opE (Q := fun s2 => (¬ bt = -1 → K_rr_readSum_7 Q (-1) bt (a3 + 1) s2) ∧ (¬ (¬ bt = -1) → Q 0 s2)) Sw (by omega) hq (fun w3 F3 E3 S3 => add (by omega) w3 F3 E3 S3)
    have key := p_opE (a := a1) (Q := T_rr_readSum_45 Q (-1) a2 a3) S1 (by omega) hq (fun u F E S => rest u (f1.trn (fun o ho => F.1 o (by omega))) (f2.trn (FV.f1 F (by omega))) (E1.tr E) S)
    exact ⟨fun z => by rw [z]; exact key.1 z, key.2⟩
theorem p_rr_readSum {s : Mem} {T : Int → Int} {N p c n q : Int} {Q : Int → Mem → Prop} (hT : TX T N) (hq : 1 ≤ q ∧ q ≤ 12) (hS : CS s T N p c n q) (hp : 0 ≤ p ∧ p ≤ N) (hn : 0 ≤ n ∧ n + 2 * (61 - c) ≤ 399) (hc : 0 ≤ c ∧ c ≤ 60)
    (h : ∀ t r p' c' E, FR s t → FV s t → (0 ≤ r ∧ r ≤ 5000) → smC T N (61 - c).toNat (-1) (-1) p c r p' c' E → (r = 0 → CE s t E ∧ CS t T N p' c' (n + (E.length : Int)) q ∧ (0 ≤ p' ∧ p' ≤ N) ∧ c' ≤ 60) → Q r t) : W_rr_readSum s Q := by
  have pdm : pd (-1) = 0 := rfl
  exact w_rr_readSum (b_rr_readSum_0 (p_rr_readSumL hT hq _ (-1) (-1) 0 p c n s (by omega) (by omega) (by omega) hS hp (by rw [pdm]; omega) (by omega) (by omega) (by omega) h))
