/-! ===== which BALE: the class's walk ===== -/
/-- what looking for a BALE writes: the WORDS of a Stand, the pile of a RULE -/
def FrB (o o1 : Nat) (s t : Mem) : Prop := (∀ a, ¬ a = o → ¬ a = o1 → t a = s a) ∧ (∀ j, ¬ j = 13 → t o j = s o j) ∧ ∀ j, ¬ j = 7 → t o1 j = s o1 j
theorem FrB.rf {o o1 : Nat} {s : Mem} : FrB o o1 s s := ⟨fun _ _ _ => rfl, fun _ _ => rfl, fun _ _ => rfl⟩
theorem FrB.tr {o o1 : Nat} {s t u : Mem} (h : FrB o o1 s t) (h2 : FrB o o1 t u) : FrB o o1 s u := ⟨fun a p q => (h2.1 a p q).trans (h.1 a p q), fun j p => (h2.2.1 j p).trans (h.2.1 j p), fun j p => (h2.2.2 j p).trans (h.2.2 j p)⟩
theorem FrB.l {o o1 : Nat} {s t : Mem} (hne : ¬ o1 = o) (h : FrJ o (fun j => j = 13) s t) : FrB o o1 s t := ⟨fun a p _ => h.1 a p, fun j p => h.2 j p, fun j _ => by rw [h.1 o1 hne]⟩
theorem FrB.r {o o1 : Nat} {s t : Mem} (hne : ¬ o1 = o) (h : FrJ o1 (fun j => j = 7) s t) : FrB o o1 s t := ⟨fun a _ p => h.1 a p, fun j _ => by rw [h.1 o (fun q => hne q.symm)], fun j p => h.2 j p⟩
theorem EqR.b {R : Nat → Int → Int} {s t : Mem} {o o1 : Nat} (h : EqR R s o1) (hF : FrB o o1 s t) : EqR R t o1 := fun j hj => (hF.2.2 j (by omega)).trans (h j hj)
theorem p_sd_bestBale {o o1 : Nat} {n r : Int} {R M m : Nat → Int → Int} {s : Mem} {Q : Int → Mem → Prop} (ho : cls o = 7) (ho1 : cls o1 = 2) (hne : ¬ o1 = o) (hne2 : ¬ o1 = o + 1) (hS : RSh (s (o + 1)) M) (hE : EqR R s o1) (hR : RR R m r) (hn : 1 ≤ n ∧ n ≤ 480)
    (h : ∀ t, FrB o o1 s t → Q (bbl R (s (o + 1)) (s o 11 0) n (M 0 0).toNat 0 (-1) 0) t) : W_sd_bestBale o o1 n s Q := by
  have hB := hS.1.1
  have hw : arrK 4 9 o 13 := ak ho rfl
  refine w_sd_bestBale (b_sd_bestBale_0 ho ho1 ?_)
  have loop : ∀ i : Int, ∀ (b l : Int) (t : Mem), 0 ≤ i → i ≤ M 0 0 → (b = -1 ∨ (0 ≤ b ∧ b < 12)) → FrB o o1 s t → bbl R (s (o + 1)) (s o 11 0) n (M 0 0).toNat 0 (-1) 0 = bbl R (s (o + 1)) (s o 11 0) n (M 0 0 - i).toNat i b l → K_sd_bestBale_8 Q o o1 n b l i t := by
    refine fun i => ind_up (P := fun i => ∀ (b l : Int) (t : Mem), 0 ≤ i → i ≤ M 0 0 → (b = -1 ∨ (0 ≤ b ∧ b < 12)) → FrB o o1 s t → bbl R (s (o + 1)) (s o 11 0) n (M 0 0).toNat 0 (-1) 0 = bbl R (s (o + 1)) (s o 11 0) n (M 0 0 - i).toNat i b l → K_sd_bestBale_8 Q o o1 n b l i t) (M 0 0) (fun i ih b l t h0 h1 hb hF hE2 => ?_) i
    have e1 : t (o + 1) = s (o + 1) := hF.1 _ (by omega) (fun q => hne2 q.symm)
    refine b_sd_bestBale_8 ho ho1 ?_
    unfold T_sd_bestBale_8 T_sd_bestBale_101 T_sd_bestBale_95
    rw [e1, hS.1.2.1, wr_id (x := M 0 0) (by omega) (by omega), wr_id (x := i) (by omega) (by omega), wr_id (x := n) (by omega) (by omega)]
    refine ⟨fun c => ?_, fun c => ⟨by omega, ?_⟩⟩
    · rw [show (M 0 0 - i).toNat = 0 by omega] at hE2
      have h := h t hF
      rw [hE2] at h
      exact h
    · obtain ⟨⟨g1, g2, g3⟩, -⟩ := hS.1.2.2 i h0 (by omega)
      rw [wr_id (x := s (o + 1) 0 i) (by omega) (by omega)]
      rw [show (M 0 0 - i).toNat = (M 0 0 - (i + 1)).toNat + 1 by omega] at hE2
      rw [bbl_1] at hE2
      have ih := ih (by omega)
      refine ⟨fun c2 => ?_, fun c2 => ih b l t (by omega) (by omega) hb hF ?_⟩
      · rw [if_neg (by omega)] at hE2
        unfold T_sd_bestBale_37
        refine p_sd_setWords (M := M) ho (by rw [e1]; exact hS) ⟨h0, by omega⟩ hn (fun t2 hF2 hw2 => ?_)
        rw [e1, hF.2.1 11 (by omega)] at hw2
        have F2 := hF.tr (FrB.l hne hF2)
        refine p_ru_clauseFor ho1 hw (fun q => hne q.symm) (hE.b F2) hR (fun t3 hF3 => ?_)
        rw [cfo_wd hw2 hR _ _ (by omega) (by have := hR.1.1; omega)]
        have F3 := F2.tr (FrB.r hne hF3)
        have ec : cfo R (wdS (s (o + 1)) (s o 11 0) i n) (R 6 0).toNat 0 = cf1 R (s (o + 1)) (s o 11 0) n i := rfl
        rw [ec]
        have hcb := cfo_bd R (wdS (s (o + 1)) (s o 11 0) i n) (R 6 0).toNat 0
        rw [ec] at hcb
        have hRb := hR.1.1
        rw [wr_id (x := cf1 R (s (o + 1)) (s o 11 0) n i) (by omega) (by omega)]
        refine ⟨fun c3 => ?_, fun c3 => ih b l t3 (by omega) (by omega) hb F3 ?_⟩
        · rw [if_neg c3] at hE2
          have hcr : 0 ≤ cf1 R (s (o + 1)) (s o 11 0) n i ∧ cf1 R (s (o + 1)) (s o 11 0) n i < R 6 0 := by omega
          unfold T_sd_bestBale_63 T_sd_bestBale_88 T_sd_bestBale_95
          refine p_ru_sumOf ho1 hw (fun q => hne q.symm) (hE.b F3) hR hcr (by rcases hcb with q | q; exact absurd q c3; exact q.2) (fun t4 hF4 => ?_)
          have F4 := F3.tr (FrB.r hne hF4)
          have hw3 : wd9 (t3 o 13) (wdS (s (o + 1)) (s o 11 0) i n) := by rw [hF3.1 o (fun q => hne q.symm)]; exact hw2
          rw [ev1_wd hw3 (RR_cl hR hcr).1.1]
          have es : ev1 (R 0) (wdS (s (o + 1)) (s o 11 0) i n) (R 3 (cf1 R (s (o + 1)) (s o 11 0) n i)) (R 4 (cf1 R (s (o + 1)) (s o 11 0) n i)) = sm1 R (s (o + 1)) (s o 11 0) n i := rfl
          rw [es, lcp_ge, wr_id (x := b) (by omega) (by omega)]
          refine ⟨fun c4 => ih i _ t4 (by omega) (by omega) (Or.inr (by omega)) F4 ?_, fun c4 => ⟨fun c5 => ih b l t4 (by omega) (by omega) hb F4 ?_, fun c5 => ih i _ t4 (by omega) (by omega) (Or.inr (by omega)) F4 ?_⟩⟩
          · rw [if_pos (Or.inl c4)] at hE2
            exact hE2
          · rw [if_neg (fun z => z.elim c4 (fun z => by omega))] at hE2
            exact hE2
          · rw [if_pos (Or.inr (by omega))] at hE2
            exact hE2
        · rw [if_pos (by omega)] at hE2
          exact hE2
      · rw [if_pos (by omega)] at hE2
        exact hE2
  have := loop 0 (-1) 0 s (by omega) hB.1 (Or.inl rfl) FrB.rf (by rw [show M 0 0 - 0 = M 0 0 by omega])
  exact this
/-! the reference's walk -/
theorem RSh_34 {S : Nat → Int → Int} {s t : Mem} (h : RSh S (MM s)) (hF : FrJ 34 (fun j => j = 52 ∨ j = 53) s t) : RSh S (MM t) := RSh_u h (fun k _ _ => by show t 34 2 k = s 34 2 k; rw [hF.2 2 (by omega)]) (fun a a1 a2 => hF.2 _ (by unfold mfld; split <;> omega))
theorem RR_34 {R : Nat → Int → Int} {s t : Mem} {r : Int} (h : RR R (s 34) r) (hF : FrJ 34 (fun j => j = 52 ∨ j = 53) s t) : RR R (t 34) r := RR_R (fun _ _ => rfl) (fun j j0 j1 => hF.2 j (by omega)) h
theorem F53 {s t : Mem} (hF : FrJ 34 (fun j => j = 53) s t) : FrJ 34 (fun j => j = 52 ∨ j = 53) s t := hF.mono (fun _ q => Or.inr q)
theorem F52 {s t : Mem} (hF : FrJ 34 (fun j => j = 52) s t) : FrJ 34 (fun j => j = 52 ∨ j = 53) s t := hF.mono (fun _ q => Or.inl q)
theorem p_md_best {n r : Int} {R S : Nat → Int → Int} {s : Mem} {Q : Int → Mem → Prop} (hr : 0 ≤ r ∧ r < 6) (hS : RSh S (MM s)) (hR : RR R (s 34) r) (hn : 1 ≤ n ∧ n ≤ 480)
    (h : ∀ t, FrJ 34 (fun j => j = 52 ∨ j = 53) s t → T_md_serves_97 Q r n (bbl R S (s 34 2 13) n (s 34 2 0).toNat 0 (-1) 0) t) : W_md_serves r n s Q := by
  have hB : 0 ≤ s 34 2 0 ∧ s 34 2 0 ≤ 12 := hS.1.1
  refine w_md_serves (b_md_serves_0 ?_)
  have loop : ∀ i : Int, ∀ (b l : Int) (t : Mem), 0 ≤ i → i ≤ s 34 2 0 → (b = -1 ∨ (0 ≤ b ∧ b < 12)) → FrJ 34 (fun j => j = 52 ∨ j = 53) s t → bbl R S (s 34 2 13) n (s 34 2 0).toNat 0 (-1) 0 = bbl R S (s 34 2 13) n (s 34 2 0 - i).toNat i b l → K_md_serves_8 Q r n b l i t := by
    refine fun i => ind_up (P := fun i => ∀ (b l : Int) (t : Mem), 0 ≤ i → i ≤ s 34 2 0 → (b = -1 ∨ (0 ≤ b ∧ b < 12)) → FrJ 34 (fun j => j = 52 ∨ j = 53) s t → bbl R S (s 34 2 13) n (s 34 2 0).toNat 0 (-1) 0 = bbl R S (s 34 2 13) n (s 34 2 0 - i).toNat i b l → K_md_serves_8 Q r n b l i t) (s 34 2 0) (fun i ih b l t h0 h1 hb hF hE2 => ?_) i
    have e2 : t 34 2 = s 34 2 := hF.2 2 (by omega)
    have e3 : t 34 3 = s 34 3 := hF.2 3 (by omega)
    refine b_md_serves_8 ?_
    unfold T_md_serves_8 T_md_serves_91
    rw [e2, e3, wr_id (x := s 34 2 0) (by omega) (by omega), wr_id (x := i) (by omega) (by omega), wr_id (x := n) (by omega) (by omega)]
    refine ⟨fun c => ?_, fun c => ⟨by omega, ?_⟩⟩
    · rw [show (s 34 2 0 - i).toNat = 0 by omega] at hE2
      have h := h t hF
      rw [hE2] at h
      exact h
    · obtain ⟨⟨g1, g2, g3⟩, -⟩ := hS.1.2.2 i h0 (by show i < s 34 2 0; omega)
      have g1 : S 0 i = s 34 3 i := g1
      have g2 : 0 ≤ s 34 3 i := g2
      have g3 : s 34 3 i ≤ 480 := g3
      rw [wr_id (x := s 34 3 i) (by omega) (by omega)]
      rw [show (s 34 2 0 - i).toNat = (s 34 2 0 - (i + 1)).toNat + 1 by omega] at hE2
      rw [bbl_1] at hE2
      have ih := ih (by omega)
      refine ⟨fun c2 => ih b l t (by omega) (by omega) hb hF ?_, fun c2 => ?_⟩
      · rw [if_pos (by omega)] at hE2
        exact hE2
      · rw [if_neg (by omega)] at hE2
        refine p_md_asks (S := S) (RSh_34 hS hF) ⟨h0, by rw [e2]; omega⟩ hn (fun t2 hF2 hw2 => ?_)
        rw [e2] at hw2
        have F2 := hF.tr (F52 hF2)
        refine p_md_clauseOf hr (RR_34 hR F2) (fun t3 hF3 => ?_)
        rw [cfo_wd hw2 hR _ _ (by omega) (by have := hR.1.1; omega)]
        have F3 := F2.tr (F53 hF3)
        have ec : cfo R (wdS S (s 34 2 13) i n) (R 6 0).toNat 0 = cf1 R S (s 34 2 13) n i := rfl
        rw [ec]
        have hcb := cfo_bd R (wdS S (s 34 2 13) i n) (R 6 0).toNat 0
        rw [ec] at hcb
        have hRb := hR.1.1
        have hcm : cf1 R S (s 34 2 13) n i = -1 ∧ cfm r (cf1 R S (s 34 2 13) n i) = -1 ∨ (0 ≤ cf1 R S (s 34 2 13) n i ∧ cf1 R S (s 34 2 13) n i < R 6 0) ∧ R 2 (cf1 R S (s 34 2 13) n i) = 1 ∧ cfm r (cf1 R S (s 34 2 13) n i) = 12 * r + cf1 R S (s 34 2 13) n i := by
          rcases hcb with q | q
          · exact Or.inl ⟨q, by unfold cfm; rw [if_pos q]⟩
          · exact Or.inr ⟨by omega, q.2, by unfold cfm; rw [if_neg (by omega)]⟩
        rw [wr_id (x := cfm r (cf1 R S (s 34 2 13) n i)) (by omega) (by omega)]
        refine ⟨fun c3 => ih b l t3 (by omega) (by omega) hb F3 ?_, fun c3 => ?_⟩
        · rw [if_pos (by omega)] at hE2
          exact hE2
        · obtain ⟨hcr, hc2, hc3⟩ := hcm.resolve_left (fun z => c3 z.2)
          rw [if_neg (by omega)] at hE2
          rw [hc3]
          obtain ⟨-, ⟨m1, m2, m3⟩, -, hck, -⟩ := (RR_34 hR F3).2.2 _ hcr.1 hcr.2
          rw [m1, m2]
          refine ⟨by omega, by omega, p_md_answer (f := R 0) (kf := false) hr (RR_cl hR hcr).1.1 (fun k k0 k1 => RR_m (RR_34 hR F3) k (by have := (RR_cl hR hcr).2.1; omega) (by have := (RR_cl hR hcr).2.1; omega)) (hck hc2) (fun t4 x hF4 he _ => ?_)⟩
          have F4 := F3.tr (F53 hF4)
          have hw3 : wd9 (t3 34 52) (wdS S (s 34 2 13) i n) := by rw [hF3.2 52 (by omega)]; exact hw2
          have ex := ev1_of he
          rw [ev1_wd hw3 (RR_cl hR hcr).1.1] at ex
          have es : ev1 (R 0) (wdS S (s 34 2 13) i n) (R 3 (cf1 R S (s 34 2 13) n i)) (R 4 (cf1 R S (s 34 2 13) n i)) = sm1 R S (s 34 2 13) n i := rfl
          rw [es] at ex
          rw [← ex, lcp_ge, wr_id (x := b) (by omega) (by omega)]
          unfold T_md_serves_84 T_md_serves_91
          refine ⟨fun c4 => ih i _ t4 (by omega) (by omega) (Or.inr (by omega)) F4 ?_, fun c4 => ⟨fun c5 => ih b l t4 (by omega) (by omega) hb F4 ?_, fun c5 => ih i _ t4 (by omega) (by omega) (Or.inr (by omega)) F4 ?_⟩⟩
          · rw [if_pos (Or.inl c4)] at hE2
            exact hE2
          · rw [if_neg (fun z => z.elim c4 (fun z => by omega))] at hE2
            exact hE2
          · rw [if_pos (Or.inr (by omega))] at hE2
            exact hE2
  have := loop 0 (-1) 0 s (by omega) hB.1 (Or.inl rfl) FrJ.rf (by rw [show s 34 2 0 - 0 = s 34 2 0 by omega])
  exact this
