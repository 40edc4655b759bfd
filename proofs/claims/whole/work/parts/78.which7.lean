/-! ===== which ===== -/
theorem rF_top {order k : Int} {B L x : Int → Int} {kk : Int} (ho : 1 ≤ order) (hL : ∀ i, kk ≤ i → L i = 0) : ∀ i : Nat, kk ≤ i → ∀ j : Nat, i ≤ j → rF order k B L x j = rF order k B L x i := by
  intro i hi j hj
  obtain ⟨d, rfl⟩ : ∃ d, j = i + d := ⟨j - i, by omega⟩
  induction d with
  | zero => rfl
  | succ d ih =>
    have e0 := hL ((i + d : Nat) : Int) (by omega)
    rw [show rF order k B L x (i + (d + 1)) = if L ((i + d : Nat) : Int) < order then rF order k B L x (i + d) else if (rF order k B L x (i + d)).1 = -1 then (if x ((i + d : Nat) : Int) < (rF order k B L x (i + d)).2 then rF order k B L x (i + d) else (B ((i + d : Nat) : Int), x ((i + d : Nat) : Int))) else if (rF order k B L x (i + d)).2 < x ((i + d : Nat) : Int) then (B ((i + d : Nat) : Int), x ((i + d : Nat) : Int)) else rF order k B L x (i + d) from rfl, if_pos (by omega)]
    exact ih (by omega)
theorem rF_bd {order k : Int} {B L x : Int → Int} (hk : 0 ≤ k ∧ k ≤ 100000000000) (hx : ∀ i, 0 ≤ x i ∧ x i ≤ 100000000000) (hB : ∀ i, 0 ≤ i → i < 3 → -1 ≤ B i ∧ B i ≤ 12) : ∀ i : Nat, i ≤ 3 → (0 ≤ (rF order k B L x i).2 ∧ (rF order k B L x i).2 ≤ 100000000000) ∧ -1 ≤ (rF order k B L x i).1 ∧ (rF order k B L x i).1 ≤ 12
  | 0, _ => ⟨hk, by show -1 ≤ (-1 : Int) ∧ (-1 : Int) ≤ 12; omega⟩
  | i + 1, hi => by
    have ih := rF_bd (order := order) (B := B) (L := L) hk hx hB i (by omega)
    have h := hx i
    have hb := hB i (by omega) (by omega)
    rw [show rF order k B L x (i + 1) = if L (i : Int) < order then rF order k B L x i else if (rF order k B L x i).1 = -1 then (if x (i : Int) < (rF order k B L x i).2 then rF order k B L x i else (B (i : Int), x (i : Int))) else if (rF order k B L x i).2 < x (i : Int) then (B (i : Int), x (i : Int)) else rF order k B L x i from rfl]
    by_cases c1 : L (i : Int) < order
    · rw [if_pos c1]; exact ih
    · rw [if_neg c1]
      by_cases c2 : (rF order k B L x i).1 = -1
      · rw [if_pos c2]
        by_cases c3 : x (i : Int) < (rF order k B L x i).2
        · rw [if_pos c3]; exact ih
        · rw [if_neg c3]; exact ⟨h, hb⟩
      · rw [if_neg c2]
        by_cases c3 : (rF order k B L x i).2 < x (i : Int)
        · rw [if_pos c3]; exact ⟨h, hb⟩
        · rw [if_neg c3]; exact ih
theorem p_md_whichT {m : Nat} {order a th tw kk : Int} {w B L : Int → Int} {s : Mem} {Q : Int → Mem → Prop} (hm : m ≤ 4) (ho : 1 ≤ order ∧ order ≤ 480) (hW : WO w tw) (hw : ∀ i, 1 ≤ i → i ≤ 8 → s 34 27 i = w i) (et : s 34 2 2 = th) (hth : 0 ≤ th ∧ th ≤ 8) (ek : s 34 62 0 = kk) (hL : LOK L kk) (eL : ∀ i, 0 ≤ i → i < 3 → s 34 61 i = L i) (eB : ∀ i, 0 ≤ i → i < kk → s 34 60 i = B i) (hB : ∀ i, 0 ≤ i → i < 3 → -1 ≤ B i ∧ B i ≤ 12) (hB0 : ∀ i, 0 ≤ i → i < kk → 0 ≤ B i)
    (h : ∀ t, FrJ 34 (fun j => j = 59) s t → T_md_which_224 Q a (tw ^ m) (rF order (kpO w tw th m L) B L (xvO w tw th order m L) 3).1 (rF order (kpO w tw th m L) B L (xvO w tw th order m L) 3).2 t) : T_md_which_54 Q order (m : Int) a s := by
  have l0 := hL.1 0 (by omega) (by omega)
  have l1 := hL.1 1 (by omega) (by omega)
  have l2 := hL.1 2 (by omega) (by omega)
  have etw : smL (fun k => s 34 27 (k + 1)) 8 = tw := by
    rw [hW.2.1]
    exact smL_congr (fun k hk => hw _ (by omega) (by omega))
  have hx := fun i => xvO_bd (th := th) hW ho hm L i
  have hpw := pow_tw hW.2.2 m hm
  have hkb := pm_b4 (th := th) hW m hm (L 0) (L 1) (L 2)
  have ek2 : pm w tw th m (L 0) (L 1) (L 2) = kpO w tw th m L := rfl
  rw [ek2] at hkb
  have hrb := fun i hi => rF_bd (order := order) (B := B) (L := L) (k := kpO w tw th m L) (by omega) hx hB i hi
  unfold T_md_which_54
  refine p_md_fillsMeans hm hW hw et hth ek hL eL (fun t at' hF hat hT => ?_)
  have e61 : ∀ i, 0 ≤ i → i < 3 → t 34 61 i = L i := fun i i0 i1 => by rw [hF.2 61 (by omega)]; exact eL i i0 i1
  have pows : ∀ d k : Nat, m - k = d → k ≤ m → K_md_which_67 Q order (m : Int) a at' (tw ^ k) (k : Int) t := by
    intro d
    induction d with
    | zero =>
      intro k hd hk
      have e : k = m := by omega
      subst e
      refine b_md_which_67 ?_
      unfold T_md_which_67 T_md_which_89
      refine ⟨fun _ => ?_, fun z => absurd (Int.le_refl _) z⟩
      rw [e61 0 (by omega) (by omega), e61 1 (by omega) (by omega), e61 2 (by omega) (by omega)]
      rintro x1 e1
      have e1 : x1 = enc (L 0) (L 1) (L 2) := by
        rw [e1]
        unfold enc
        omega
      have he := enc_bd l0 l1 l2
      rw [e1, wr_id (x := at' + enc (L 0) (L 1) (L 2)) (by omega) (by omega), hT (L 0) (L 1) (L 2) ⟨l0.1, Int.le_refl _⟩ ⟨l1.1, Int.le_refl _⟩ ⟨l2.1, Int.le_refl _⟩, ek2]
      refine ⟨by omega, ?_⟩
      have loop : ∀ e i : Nat, 3 - i = e → i ≤ 3 → i ≤ kk → K_md_which_135 Q order a at' (tw ^ k) (enc (L 0) (L 1) (L 2)) (rF order (kpO w tw th k L) B L (xvO w tw th order k L) i).1 (rF order (kpO w tw th k L) B L (xvO w tw th order k L) i).2 (i : Int) t := by
        intro e
        induction e with
        | zero =>
          intro i hi i3 ik
          have e3 : i = 3 := by omega
          subst e3
          refine b_md_which_135 ?_
          unfold T_md_which_135
          rw [hF.2 62 (by omega), ek, wr_id (x := kk) (by have := hL.2.1; omega) (by have := hL.2.1; omega)]
          exact ⟨fun _ => h t hF, fun z => absurd hL.2.1.2 z⟩
        | succ e ihe =>
          intro i hi i3 ik
          refine b_md_which_135 ?_
          have hkk := hL.2.1
          have hri := hrb i i3
          have hxi := hx (i : Int)
          have es : rF order (kpO w tw th k L) B L (xvO w tw th order k L) (i + 1) = if L (i : Int) < order then rF order (kpO w tw th k L) B L (xvO w tw th order k L) i else if (rF order (kpO w tw th k L) B L (xvO w tw th order k L) i).1 = -1 then (if xvO w tw th order k L (i : Int) < (rF order (kpO w tw th k L) B L (xvO w tw th order k L) i).2 then rF order (kpO w tw th k L) B L (xvO w tw th order k L) i else (B (i : Int), xvO w tw th order k L (i : Int))) else if (rF order (kpO w tw th k L) B L (xvO w tw th order k L) i).2 < xvO w tw th order k L (i : Int) then (B (i : Int), xvO w tw th order k L (i : Int)) else rF order (kpO w tw th k L) B L (xvO w tw th order k L) i := rfl
          have top := rF_top (k := kpO w tw th k L) (B := B) (x := xvO w tw th order k L) ho.1 hL.2.2
          unfold T_md_which_135 T_md_which_218
          rw [hF.2 62 (by omega), ek, wr_id (x := kk) (by omega) (by omega), wr_id (x := (i : Int)) (by omega) (by omega)]
          refine ⟨fun c => ?_, fun c => ⟨by omega, ?_⟩⟩
          · rw [← top i c 3 i3]
            exact h t hF
          · have ihe := ihe (i + 1) (by omega) (by omega) (by omega)
            rw [es, show ((i + 1 : Nat) : Int) = (i : Int) + 1 by omega] at ihe
            generalize rF order (kpO w tw th k L) B L (xvO w tw th order k L) i = r at hri ihe ⊢
            have hLi := hL.1 i (by omega) (by omega)
            rw [e61 i (by omega) (by omega), wr_id (x := L (i : Int)) (by omega) (by omega), wr_id (x := order) (by omega) (by omega)]
            refine ⟨fun c2 => ?_, fun c2 => ?_⟩
            · rw [if_pos c2] at ihe
              exact ihe
            · rw [if_neg c2] at ihe
              refine p_md_stateBehind l0 l1 l2 (by omega) ho (by rw [hF.2 2 (by omega)]; exact et) hth ?_
              have hle : ∀ j, L j ≤ 40 → 0 ≤ L j → beh th (L j) order ≤ L j := fun j _ _ => by unfold beh; omega
              have en : ∀ j v, (j = 0 ∨ j = 1 ∨ j = 2) → v = L j → (if (i : Int) = j then beh th v order else v) = rsO th order L j (i : Int) := fun j v hj hv => by
                unfold rsO
                rw [hv]
                by_cases q : (i : Int) = j
                · rw [if_pos q, if_pos q.symm]
                · rw [if_neg q, if_neg (fun z => q z.symm)]
              rw [en 0 _ (Or.inl rfl) rfl, en 1 _ (Or.inr (Or.inl rfl)) rfl, en 2 _ (Or.inr (Or.inr rfl)) rfl]
              have rb : ∀ j, (0 ≤ L j ∧ L j ≤ 40) → 0 ≤ rsO th order L j (i : Int) ∧ rsO th order L j (i : Int) ≤ L j := fun j hj => by
                unfold rsO
                split
                · have := beh_bd (th := th) (x := L j) (n := order) hth.1 (by omega) hj
                  exact ⟨this.1, hle j hj.2 hj.1⟩
                · exact ⟨hj.1, Int.le_refl _⟩
              have r0 := rb 0 l0
              have r1 := rb 1 l1
              have r2 := rb 2 l2
              have ex : order * tw ^ k + pm w tw th k (rsO th order L 0 (i : Int)) (rsO th order L 1 (i : Int)) (rsO th order L 2 (i : Int)) = xvO w tw th order k L (i : Int) := rfl
              have hv := hT _ _ _ r0 r1 r2
              have he2 := enc_bd (a := rsO th order L 0 (i : Int)) (b := rsO th order L 1 (i : Int)) (c := rsO th order L 2 (i : Int)) (by omega) (by omega) (by omega)
              generalize enc (rsO th order L 0 (i : Int)) (rsO th order L 1 (i : Int)) (rsO th order L 2 (i : Int)) = E at hv he2 ⊢
              rw [wr_id (x := at' + E) (by omega) (by omega), hv, ex]
              refine ⟨by omega, ?_⟩
              rintro x5 rfl
              generalize xvO w tw th order k L (i : Int) = xi at hxi ihe ⊢
              have hBi := hB i (by omega) (by omega)
              have hBi0 := hB0 i (by omega) (by omega)
              have tk : K_md_which_135 Q order a at' (tw ^ k) (enc (L 0) (L 1) (L 2)) (B (i : Int)) xi ((i : Int) + 1) t → T_md_which_205 Q order a at' (tw ^ k) (enc (L 0) (L 1) (L 2)) (i : Int) xi t := fun hk => by
                unfold T_md_which_205 T_md_which_218
                rw [wr_id (x := (i : Int)) (by omega) (by omega), hF.2 60 (by omega), eB i (by omega) (by omega)]
                exact ⟨by omega, hk⟩
              unfold T_md_which_197 T_md_which_218
              rw [wr_id (x := r.1) (by omega) (by omega), lcp_le, lcp_lt, wL_nn (x := xi) (by omega), wL_nn (x := r.2) (by omega)]
              refine ⟨fun c3 => ⟨fun c4 => ?_, fun c4 => tk ?_⟩, fun c3 => ⟨fun c4 => ?_, fun c4 => tk ?_⟩⟩
              · rw [if_neg c3, if_neg (by omega)] at ihe
                exact ihe
              · rw [if_neg c3, if_pos (by omega)] at ihe
                exact ihe
              · rw [if_pos (Decidable.byContradiction c3), if_pos c4] at ihe
                exact ihe
              · rw [if_pos (Decidable.byContradiction c3), if_neg c4] at ihe
                exact ihe
      have := loop 3 0 (by omega) (by omega) (by have := hL.2.1; omega)
      exact this
    | succ d ih =>
      intro k hd hk
      refine b_md_which_67 ?_
      unfold T_md_which_67
      rw [wr_id (x := (m : Int)) (by omega) (by omega), wr_id (x := (k : Int)) (by omega) (by omega)]
      refine ⟨fun z => by omega, fun _ => p_md_allWeights ?_⟩
      rw [hF.2 27 (by omega), etw, wr_id (x := tw) (by have := hW.2.2; omega) (by have := hW.2.2; omega), ← Int.pow_succ, show (k : Int) + 1 = ((k + 1 : Nat) : Int) by omega]
      exact ih (k + 1) (by omega) (by omega)
  have := pows m 0 (by omega) (by omega)
  rw [Int.pow_zero] at this
  exact this
/-- the same, of longs -/
def AgL (s : Mem) (wc wm : Mem → (Int → Mem → Prop) → Prop) : Prop := wc s (fun r u => wm u (fun r2 v => wL r = wL r2 ∧ Inv v))
theorem g_which {s : Mem} (h : Inv s) {a b c : Int} (ha : I32 a) (hb : I32 b) (hc : I32 c) : AgL s (W_ce_which a b c) (W_md_which a b c) := by
  have wa := ha.w
  have wb := hb.w
  have wc := hc.w
  obtain ⟨b1, b2, b3⟩ := Inv_bal h
  obtain ⟨⟨t1, t2⟩, -⟩ := Inv_sca h
  have hw : ∀ k, 1 ≤ k → k < 9 → s 4 2 k = s 34 27 k ∧ 0 ≤ s 34 27 k ∧ s 34 27 k ≤ 9 := h.1.2.1.2.1
  obtain ⟨nb, enb⟩ : ∃ nb : Nat, s 34 2 0 = (nb : Int) := ⟨(s 34 2 0).toNat, by omega⟩
  have ebal : ∀ k : Nat, k < nb → s 3 0 (k : Int) = s 34 3 (k : Int) ∧ 0 ≤ s 34 3 (k : Int) ∧ s 34 3 (k : Int) ≤ 480 := fun k hk => (b3 k (by omega) (by omega)).1
  have efew : few (s 3 0) nb = few (s 34 3) nb := few_c nb (fun k hk => (ebal k hk).1)
  have etw : smL (fun k => s 4 2 (k + 1)) 8 = smL (fun k => s 34 27 (k + 1)) 8 := smL_congr (fun k hk => (hw _ (by omega) (by omega)).1)
  have htw : 0 ≤ smL (fun k => s 34 27 (k + 1)) 8 ∧ smL (fun k => s 34 27 (k + 1)) 8 ≤ 9 * (8 : Nat) := smL_bd (by omega) 8 (fun k hk => (hw _ (by omega) (by omega)).2)
  have wtw : wr (smL (fun k => s 34 27 (k + 1)) 8) = smL (fun k => s 34 27 (k + 1)) 8 := wr_id (by omega) (by omega)
  -- not asked as it must be
  have rf0 : ∀ u, (∀ o, ¬ o = 26 → u o = s o) → Inv u := fun u hu => Inv_C h (fun o ho => hu o (by omega))
  have rf : ∀ u, (∀ o, ¬ o = 26 → u o = s o) → ¬ ((1 ≤ a ∧ a ≤ 480) ∧ (0 ≤ b ∧ b ≤ 4) ∧ (0 ≤ c ∧ c ≤ 2) ∧ 0 < smL (fun k => s 34 27 (k + 1)) 8 ∧ ¬ few (s 34 3) nb = none) → W_md_which a b c u (fun r2 v => wL (-2) = wL r2 ∧ Inv v) := fun u hu hno => by
    have u34 : u 34 = s 34 := hu 34 (by omega)
    refine w_md_which (b_md_which_0 (p_in ha.wl (b' := 1) (by decide) (c' := 480) (by decide) (zt (fun c1 => p_in hb.wl (b' := 0) (by decide) (c' := 4) (by decide) (zt (fun c2 => p_in hc.wl (b' := 0) (by decide) (c' := 2) (by decide) (zt (fun c3 => p_md_allWeights ?_) (fun _ => ⟨rfl, rf0 u hu⟩))) (fun _ => ⟨rfl, rf0 u hu⟩))) (fun _ => ⟨rfl, rf0 u hu⟩))))
    rw [u34, wtw]
    refine ⟨fun _ => ⟨rfl, rf0 u hu⟩, fun c4 => p_md_findsFew (nb := nb) (by rw [u34]; exact enb) (by omega) (by rw [u34]; exact fun k hk => (ebal k hk).2) (fun hn t hF => ?_) (fun q hq => ?_)⟩
    · intro _
      exact br_f (by decide) ⟨rfl, Inv_Mo (rf0 u hu) (hF.mono (fun j q => by unfold kpJ; omega))⟩
    · rw [u34] at hq
      exact absurd ⟨c1, c2, c3, by omega, by rw [hq]; exact fun z => by cases z⟩ hno
  refine w_ce_which (b_ce_which_0 (p_within wa (b' := 1) (by decide) (c' := 480) (by decide) (zt (fun c1 => p_within wb (b' := 0) (by decide) (c' := 4) (by decide) (zt (fun c2 => p_within wc (b' := 0) (by decide) (c' := 2) (by decide) (zt (fun c3 => ?_) (fun c3 => ?_))) (fun c2 => ?_))) (fun c1 => ?_))))
  · unfold T_ce_which_34
    refine br_f (by decide) ?_
    refine w_wp_takes (b_wp_takes_0 rfl rfl (p_wp_takesBales (nb := nb) (by omega) (by omega) (fun k hk => by have := ebal k hk; omega) (fun hn t ho => ?_) (fun q hq t ho h2 hv => ?_)))
    · intro _
      refine br_t (by decide) ⟨Or.inl rfl, ?_⟩
      intro _
      refine br_f (by decide) (rf t ho (fun z => z.2.2.2.2 (by rw [← efew]; exact hn)))
    · intro _
      refine br_f (by decide) (p_wp_takesWeights (by rw [ho 4 (by omega)]; exact fun i i0 i1 => by have := hw i i0 (by omega); omega) (fun t2 hF2 w3 w4 w5 => ?_))
      rw [ho 4 (by omega)] at w3 w4 w5 ⊢
      rw [etw]
      have ho2 : ∀ o, ¬ o = 26 → t2 o = s o := fun o q => by rw [hF2.1 o q, ho o q]
      refine zt (fun cw => ⟨Or.inr rfl, ?_⟩) (fun cw => ⟨Or.inl rfl, ?_⟩)
      · intro _
        refine br_t (by decide) ?_
        unfold T_ce_which_69 T_ce_which_104 T_ce_which_113 T_ce_which_121
        rw [wc]
        rw [etw] at w5
        have hWO : WO (s 4 2) (smL (fun k => s 34 27 (k + 1)) 8) := ⟨fun i i0 i1 => by have := hw i i0 (by omega); omega, etw.symm, by omega, by omega⟩
        obtain ⟨m, em⟩ : ∃ m : Nat, b = (m : Int) := ⟨b.toNat, by omega⟩
        subst em
        obtain ⟨q1, q2, q3⟩ := few_ok nb q (fun k hk => by have := ebal k hk; omega) hq
        have hLK : LOK q.2.2 (q.1 : Int) := ⟨fun i i0 i1 => by
          by_cases z : i < q.1
          · have := q2 i i0 z; omega
          · have := q3 i (by omega); omega, by omega, q3⟩
        have hBb : ∀ i, 0 ≤ i → i < 3 → 1 ≤ q.2.2 i → 0 ≤ q.2.1 i := fun i i0 i1 i2 => by
          by_cases z : i < q.1
          · exact (q2 i i0 z).1.1
          · have := q3 i (by omega); omega
        refine p_wp_work (th := s 3 8 0) (B := q.2.1) (L := q.2.2) hWO ⟨by rw [hF2.2 2 (by omega)]; exact h2, w3, w4, w5⟩ (by omega) (by omega) c1 (fun i i0 i1 => by rw [hF2.2 0 (by omega), hF2.2 1 (by omega)]; exact hv i i0 i1) hLK.1 (fun t3 hF3 r6 r7 r8 => ?_)
        have ho3 : ∀ o, ¬ o = 26 → t3 o = s o := fun o z => by rw [hF3.1 o z, ho2 o z]
        have t34 : t3 34 = s 34 := ho3 34 (by omega)
        have hkb := pm_b4 (th := s 3 8 0) hWO m (by omega) (q.2.2 0) (q.2.2 1) (q.2.2 2)
        have ek2 : pm (s 4 2) (smL (fun k => s 34 27 (k + 1)) 8) (s 3 8 0) m (q.2.2 0) (q.2.2 1) (q.2.2 2) = kpO (s 4 2) (smL (fun k => s 34 27 (k + 1)) 8) (s 3 8 0) m q.2.2 := rfl
        rw [ek2] at hkb
        rw [cE_rF hkb.1 c1.1 hBb] at r6 r7 r8
        have hBl : ∀ i, 0 ≤ i → i < 3 → -1 ≤ (if i < (q.1 : Int) then q.2.1 i else -1) ∧ (if i < (q.1 : Int) then q.2.1 i else -1) ≤ 12 := fun i i0 i1 => by
          split
          · next z => have := q2 i i0 z; omega
          · omega
        -- beyond the BALES that there are, no number is looked at
        have rB : rF a (kpO (s 4 2) (smL (fun k => s 34 27 (k + 1)) 8) (s 3 8 0) m q.2.2) q.2.1 q.2.2 (xvO (s 4 2) (smL (fun k => s 34 27 (k + 1)) 8) (s 3 8 0) a m q.2.2) 3 = rF a (kpO (s 4 2) (smL (fun k => s 34 27 (k + 1)) 8) (s 3 8 0) m q.2.2) (fun i => if i < (q.1 : Int) then q.2.1 i else -1) q.2.2 (xvO (s 4 2) (smL (fun k => s 34 27 (k + 1)) 8) (s 3 8 0) a m q.2.2) 3 := by
          have key : ∀ i : Nat, i ≤ 3 → rF a (kpO (s 4 2) (smL (fun k => s 34 27 (k + 1)) 8) (s 3 8 0) m q.2.2) q.2.1 q.2.2 (xvO (s 4 2) (smL (fun k => s 34 27 (k + 1)) 8) (s 3 8 0) a m q.2.2) i = rF a (kpO (s 4 2) (smL (fun k => s 34 27 (k + 1)) 8) (s 3 8 0) m q.2.2) (fun i => if i < (q.1 : Int) then q.2.1 i else -1) q.2.2 (xvO (s 4 2) (smL (fun k => s 34 27 (k + 1)) 8) (s 3 8 0) a m q.2.2) i := by
            intro i hi
            induction i with
            | zero => rfl
            | succ i ih =>
              have ih := ih (by omega)
              have e1 : ∀ BB : Int → Int, rF a (kpO (s 4 2) (smL (fun k => s 34 27 (k + 1)) 8) (s 3 8 0) m q.2.2) BB q.2.2 (xvO (s 4 2) (smL (fun k => s 34 27 (k + 1)) 8) (s 3 8 0) a m q.2.2) (i + 1) = if q.2.2 (i : Int) < a then rF a (kpO (s 4 2) (smL (fun k => s 34 27 (k + 1)) 8) (s 3 8 0) m q.2.2) BB q.2.2 (xvO (s 4 2) (smL (fun k => s 34 27 (k + 1)) 8) (s 3 8 0) a m q.2.2) i else if (rF a (kpO (s 4 2) (smL (fun k => s 34 27 (k + 1)) 8) (s 3 8 0) m q.2.2) BB q.2.2 (xvO (s 4 2) (smL (fun k => s 34 27 (k + 1)) 8) (s 3 8 0) a m q.2.2) i).1 = -1 then (if (xvO (s 4 2) (smL (fun k => s 34 27 (k + 1)) 8) (s 3 8 0) a m q.2.2) (i : Int) < (rF a (kpO (s 4 2) (smL (fun k => s 34 27 (k + 1)) 8) (s 3 8 0) m q.2.2) BB q.2.2 (xvO (s 4 2) (smL (fun k => s 34 27 (k + 1)) 8) (s 3 8 0) a m q.2.2) i).2 then rF a (kpO (s 4 2) (smL (fun k => s 34 27 (k + 1)) 8) (s 3 8 0) m q.2.2) BB q.2.2 (xvO (s 4 2) (smL (fun k => s 34 27 (k + 1)) 8) (s 3 8 0) a m q.2.2) i else (BB (i : Int), (xvO (s 4 2) (smL (fun k => s 34 27 (k + 1)) 8) (s 3 8 0) a m q.2.2) (i : Int))) else if (rF a (kpO (s 4 2) (smL (fun k => s 34 27 (k + 1)) 8) (s 3 8 0) m q.2.2) BB q.2.2 (xvO (s 4 2) (smL (fun k => s 34 27 (k + 1)) 8) (s 3 8 0) a m q.2.2) i).2 < (xvO (s 4 2) (smL (fun k => s 34 27 (k + 1)) 8) (s 3 8 0) a m q.2.2) (i : Int) then (BB (i : Int), (xvO (s 4 2) (smL (fun k => s 34 27 (k + 1)) 8) (s 3 8 0) a m q.2.2) (i : Int)) else rF a (kpO (s 4 2) (smL (fun k => s 34 27 (k + 1)) 8) (s 3 8 0) m q.2.2) BB q.2.2 (xvO (s 4 2) (smL (fun k => s 34 27 (k + 1)) 8) (s 3 8 0) a m q.2.2) i := fun _ => rfl
              by_cases z : q.2.2 (i : Int) < a
              · rw [e1, e1, if_pos z, if_pos z, ih]
              · have zi : (i : Int) < q.1 := Decidable.byContradiction fun y => by
                  have := q3 i (by omega)
                  omega
                have eb : (if (i : Int) < (q.1 : Int) then q.2.1 (i : Int) else -1) = q.2.1 (i : Int) := if_pos zi
                rw [e1, e1, if_neg z, if_neg z, ← ih, eb]
          exact key 3 (Nat.le_refl _)
        rw [rB] at r6 r7 r8
        have hx := fun i => xvO_bd (th := s 3 8 0) hWO c1 (m := m) (by omega) q.2.2 i
        have hrb := rF_bd (order := a) (B := fun i => if i < (q.1 : Int) then q.2.1 i else -1) (L := q.2.2) (k := kpO (s 4 2) (smL (fun k => s 34 27 (k + 1)) 8) (s 3 8 0) m q.2.2) (by omega) hx hBl 3 (Nat.le_refl _)
        have hpw := pow_tw hWO.2.2 m (by omega)
        have model : ∀ Q : Int → Mem → Prop, (∀ v, Inv v → T_md_which_224 Q c (smL (fun k => s 34 27 (k + 1)) 8 ^ m) (rF a (kpO (s 4 2) (smL (fun k => s 34 27 (k + 1)) 8) (s 3 8 0) m q.2.2) (fun i => if i < (q.1 : Int) then q.2.1 i else -1) q.2.2 (xvO (s 4 2) (smL (fun k => s 34 27 (k + 1)) 8) (s 3 8 0) a m q.2.2) 3).1 (rF a (kpO (s 4 2) (smL (fun k => s 34 27 (k + 1)) 8) (s 3 8 0) m q.2.2) (fun i => if i < (q.1 : Int) then q.2.1 i else -1) q.2.2 (xvO (s 4 2) (smL (fun k => s 34 27 (k + 1)) 8) (s 3 8 0) a m q.2.2) 3).2 v) → W_md_which a (m : Int) c t3 Q := fun Q hQ => by
          refine w_md_which (b_md_which_0 (p_in ha.wl (b' := 1) (by decide) (c' := 480) (by decide) (zt (fun _ => p_in hb.wl (b' := 0) (by decide) (c' := 4) (by decide) (zt (fun _ => p_in hc.wl (b' := 0) (by decide) (c' := 2) (by decide) (zt (fun _ => p_md_allWeights ?_) (fun z => absurd c3 z))) (fun z => absurd c2 z))) (fun z => absurd c1 z))))
          rw [t34, wtw]
          refine br_f (by omega) (p_md_findsFew (nb := nb) (by rw [t34]; exact enb) (by omega) (by rw [t34]; exact fun k hk => (ebal k hk).2) (fun hn => ?_) (fun q' hq' v hFv v62 v60 v61 => ?_))
          · rw [t34, ← efew, hq] at hn
            cases hn
          · rw [t34, ← efew, hq] at hq'
            cases hq'
            intro _
            refine br_t (by decide) (p_md_whichT (th := s 3 8 0) (tw := smL (fun k => s 34 27 (k + 1)) 8) (kk := (q.1 : Int)) (w := s 4 2) (L := q.2.2) (B := fun i => if i < (q.1 : Int) then q.2.1 i else -1) (by omega) c1 hWO (fun i i0 i1 => by rw [hFv.2 27 (by omega), t34]; exact (hw i i0 (by omega)).1.symm) (by rw [hFv.2 2 (by omega), t34]; exact t1.symm) (by omega) v62 hLK v61 (fun i i0 i1 => by rw [v60 i i0 i1]; exact (if_pos i1).symm) hBl (fun i i0 i1 => by show 0 ≤ (if i < (q.1 : Int) then q.2.1 i else -1); rw [if_pos i1]; exact (q2 i i0 i1).1.1) (fun z hFz => hQ z ?_))
            exact Inv_Mo (Inv_Mo (rf0 t3 ho3) (hFv.mono (fun j q => by unfold kpJ; omega))) (hFz.mono (fun j q => by unfold kpJ; omega))
        generalize rF a (kpO (s 4 2) (smL (fun k => s 34 27 (k + 1)) 8) (s 3 8 0) m q.2.2) (fun i => if i < (q.1 : Int) then q.2.1 i else -1) q.2.2 (xvO (s 4 2) (smL (fun k => s 34 27 (k + 1)) 8) (s 3 8 0) a m q.2.2) 3 = r at r6 r7 r8 hrb model
        generalize smL (fun k => s 34 27 (k + 1)) 8 ^ m = P at r7 r8 hpw model
        have hg := gcE_pos 200 P r.2 (by omega) hrb.1.1
        have wg : wL (gcE 200 P r.2) = gcE 200 P r.2 := wL_nn (by omega)
        have fin : ∀ v, Inv v → ∀ y : Int, (c = 0 → wL y = wL (wr r.1)) → (¬ c = 0 → c = 1 → wL y = wL (r.2 / gcE 200 P r.2)) → (¬ c = 0 → ¬ c = 1 → wL y = wL (P / gcE 200 P r.2)) → T_md_which_224 (fun r2 v => wL y = wL r2 ∧ Inv v) c P r.1 r.2 v := fun v hv y y0 y1 y2 => by
          unfold T_md_which_224 T_md_which_243 T_md_which_256 T_md_which_261
          refine p_md_divisor (by omega) (by omega) ?_
          rw [wc, wg, ldv_p (by omega) (by omega), ldv_p (by omega) (by omega)]
          exact ⟨fun z => ⟨fun z2 => ⟨by omega, y2 z z2, hv⟩, fun z2 => ⟨by omega, y1 z (Decidable.byContradiction z2), hv⟩⟩, fun z => ⟨y0 (Decidable.byContradiction z), hv⟩⟩
        refine ⟨fun z => model _ (fun v hv => fin v hv _ (fun _ => by rw [r6]) (fun q _ => absurd z q) (fun q _ => absurd z q)), fun z => ⟨fun z2 => model _ (fun v hv => fin v hv _ (fun q => absurd q z) (fun _ _ => by rw [r7]) (fun _ q => absurd z2 q)), fun z2 => model _ (fun v hv => fin v hv _ (fun q => absurd q z) (fun _ q => absurd q z2) (fun _ _ => by rw [r8]))⟩⟩
      · intro _
        exact br_f (by decide) (rf t2 ho2 (fun z => cw z.2.2.2.1))
  · unfold T_ce_which_33 T_ce_which_34
    exact br_t (by decide) (rf s (fun _ _ => rfl) (fun z => c3 z.2.2.1))
  · unfold T_ce_which_33 T_ce_which_34
    exact br_t (by decide) (rf s (fun _ _ => rfl) (fun z => c2 z.2.1))
  · unfold T_ce_which_33 T_ce_which_34
    exact br_t (by decide) (rf s (fun _ _ => rfl) (fun z => c1 z.1))
