/-! ===== a DAY ===== -/
def drw (x : Int) : Int := lrm (wr x * 1103515245 + 12345) 2147483648
theorem drw_bd {x : Int} (h : 0 ≤ x ∧ x ≤ 2147483647) : 0 ≤ drw x ∧ drw x ≤ 2147483647 := by
  unfold drw
  rw [wr_id (by omega) (by omega), lrm_p (by omega) (by omega)]
  omega
def ordN (x w : Int) : Int := 1 + irm (idv (drw x) 65536) w
theorem ordN_bd {x w : Int} (h : 0 ≤ x ∧ x ≤ 2147483647) (hw : 1 ≤ w ∧ w ≤ 80) : 1 ≤ ordN x w ∧ ordN x w ≤ 480 := by
  have hd := drw_bd h
  unfold ordN
  rw [idv_p (by omega) (by omega), irm_p (by omega) (by omega)]
  have h1 := Int.emod_nonneg (drw x / 65536) (show ¬ w = 0 by omega)
  have h2 := Int.emod_lt_of_pos (drw x / 65536) (show 0 < w by omega)
  omega
def runC (R : Nat → Int → Int) (w : Int) : Nat → (Nat → Int → Int) → (Nat → Int → Int) → (Nat → Int → Int) → (Nat → Int → Int) → Prop
  | 0, S, U, S', U' => S' = S ∧ ∀ j, 2 ≤ j → j ≤ 12 → U' j = U j
  | k + 1, S, U, S', U' => ∃ U1 S2 U2 res, (U1 12 0 = drw (U 12 0) ∧ ∀ j, 2 ≤ j → j ≤ 11 → U1 j = U j) ∧ FillC R S U1 (ordN (U 12 0) w) res S2 U2 ∧ runC R w k S2 U2 S' U'
theorem cls_ru {k : Int} (h : 0 ≤ k ∧ k < 6) : cls (28 + k.toNat) = 2 := by
  rcases (show k = 0 ∨ k = 1 ∨ k = 2 ∨ k = 3 ∨ k = 4 ∨ k = 5 by omega) with q | q | q | q | q | q <;> subst q <;> rfl
theorem p_sd_runDay {o o1 : Nat} {k w r : Int} {R M m : Nat → Int → Int} {s : Mem} {Q : Mem → Prop} (ho : cls o = 7) (ho1 : cls o1 = 2) (hne : ¬ o1 = o) (hne2 : ¬ o1 = o + 1) (hS : RSh (s (o + 1)) M) (hE : EqR R s o1) (hR : RR R m r) (hk : 1 ≤ k ∧ k ≤ 40) (hw : 1 ≤ w ∧ w ≤ 80) (hx : 0 ≤ s o 12 0 ∧ s o 12 0 ≤ 2147483647)
    (h : ∀ t U', FrO (fun a => a = o ∨ a = o + 1 ∨ a = o1) s t → EqR R t o1 → (∃ M', RSh (t (o + 1)) M') → runC R w k.toNat (s (o + 1)) (s o) (t (o + 1)) U' → t o 11 0 = U' 11 0 + 1 → (∀ j, 2 ≤ j → j ≤ 12 → ¬ j = 11 → t o j = U' j) → (0 ≤ t o 12 0 ∧ t o 12 0 ≤ 2147483647) → Q t) : W_sd_runDay o o1 k w s Q := by
  refine w_sd_runDay (b_sd_runDay_0 ho ho1 ?_)
  have loop : ∀ i : Int, ∀ t, 0 ≤ i → i ≤ k → FrO (fun a => a = o ∨ a = o + 1 ∨ a = o1) s t → EqR R t o1 → (∃ M', RSh (t (o + 1)) M') → (0 ≤ t o 12 0 ∧ t o 12 0 ≤ 2147483647) → (∀ S' U', runC R w (k - i).toNat (t (o + 1)) (t o) S' U' → runC R w k.toNat (s (o + 1)) (s o) S' U') → K_sd_runDay_3 Q o o1 k w i t := by
    refine fun i => ind_up (P := fun i => ∀ t, 0 ≤ i → i ≤ k → FrO (fun a => a = o ∨ a = o + 1 ∨ a = o1) s t → EqR R t o1 → (∃ M', RSh (t (o + 1)) M') → (0 ≤ t o 12 0 ∧ t o 12 0 ≤ 2147483647) → (∀ S' U', runC R w (k - i).toNat (t (o + 1)) (t o) S' U' → runC R w k.toNat (s (o + 1)) (s o) S' U') → K_sd_runDay_3 Q o o1 k w i t) k (fun i ih t h0 h1 hF hEt hM hxt hC => ?_) i
    obtain ⟨M1, hM1⟩ := hM
    refine b_sd_runDay_3 ho ho1 ?_
    unfold T_sd_runDay_3 T_sd_runDay_41
    rw [wr_id (x := k) (by omega) (by omega), wr_id (x := i) (by omega) (by omega), wr_id (x := w) (by omega) (by omega)]
    refine ⟨fun c => ?_, fun c => ?_⟩
    · intro s1 x1
      obtain ⟨y1, y2, y3⟩ := updM_f x1
      have e1 : s1 (o + 1) = t (o + 1) := y1 _ (by omega)
      have hC := hC (t (o + 1)) (t o) (by rw [show (k - i).toNat = 0 by omega]; exact ⟨rfl, fun _ _ _ => rfl⟩)
      exact h s1 (t o) (fun a ha => by rw [y1 a (by omega), hF a ha]) (fun j hj => by rw [y1 o1 hne]; exact hEt j hj) ⟨M1, by rw [e1]; exact hM1⟩ (by rw [e1]; exact hC) (by rw [y3, uA_s]) (fun j _ _ q => y2 j q) (by rw [y2 12 (by omega)]; exact hxt)
    · refine w_sd_draw (b_sd_draw_0 ho ?_)
      unfold T_sd_draw_0
      intro s1 x1
      obtain ⟨y1, y2, y3⟩ := updM_f x1
      have e1 : s1 (o + 1) = t (o + 1) := y1 _ (by omega)
      have ed : s1 o 12 0 = drw (t o 12 0) := by rw [y3, uA_s]; rfl
      rw [ed]
      unfold T_sd_runDay_31
      have en : 1 + irm (idv (drw (t o 12 0)) 65536) w = ordN (t o 12 0) w := rfl
      rw [en]
      refine br_f (by omega) ⟨by omega, p_sd_fillOrder ho ho1 hne hne2 (by rw [e1]; exact hM1) (R := R) (fun j hj => by rw [y1 o1 hne]; exact hEt j hj) hR (ordN_bd hxt hw) (fun res u hFu hEu hMu hCu => ?_)⟩
      rw [e1] at hCu
      have u12 : u o 12 0 = drw (t o 12 0) := by rw [hCu.2.1 12 (by omega), ed]
      refine ih (by omega) u (by omega) (by omega) (fun a ha => by rw [hFu a ha, y1 a (by omega), hF a ha]) hEu hMu (by rw [u12]; exact drw_bd hxt) (fun S' U' hr => hC S' U' ?_)
      rw [show (k - i).toNat = (k - (i + 1)).toNat + 1 by omega]
      exact ⟨s1 o, u (o + 1), u o, res, ⟨ed, fun j j0 j1 => y2 j (by omega)⟩, hCu, hr⟩
  exact loop 0 s (by omega) (by omega) (fun _ _ => rfl) hE ⟨M, hS⟩ hx (fun S' U' hr => by rw [show k - 0 = k by omega] at hr; exact hr)
/-! the reference's side -/
def FrW (v m : Mem) : Prop := FrV v m ∧ ∀ k, ¬ ((8 ≤ k ∧ k ≤ 11) ∨ k = 13 ∨ k = 14) → m 34 2 k = v 34 2 k
theorem FrV.tr {u v m : Mem} (h : FrV u v) (h2 : FrV v m) : FrV u m := FrJ.tr h h2
theorem RR_V {R : Nat → Int → Int} {v m : Mem} {r : Int} (h : RR R (v 34) r) (hF : FrV v m) : RR R (m 34) r := RR_R (fun _ _ => rfl) (fun j j0 j1 => hF.2 j (by omega)) h
/-- one number of the scalars is another, and one of a Stand -/
theorem RS_one {v m : Mem} {c : Int → Int} {S T U U' : Nat → Int → Int} {D D' y : Int} {k : Int} (h : RS S T U (Mo v c) D) (hk : k = 13 ∨ k = 14) (hm : m = updM v 34 2 k y) (hS : Std U' (Mo m c) D') (hU : ∀ j, 2 ≤ j → j ≤ 6 → U' j = U j) : RS S T U' (Mo m c) D' := by
  obtain ⟨y1, y2, y3⟩ := updM_f hm
  obtain ⟨h1, h2, -, h4⟩ := h
  have er : ∀ a, ¬ a = 0 → a < 20 → Mo m c a = Mo v c a := fun a a0 a1 => by
    rw [Mo_a a0, Mo_a a0]
    exact y2 _ (by unfold mfld; split <;> omega)
  have es : ∀ x, ¬ x = k → ¬ (8 ≤ x ∧ x ≤ 11) → Mo m c 0 x = Mo v c 0 x := fun x hx hx2 => by rw [Mo_k hx2, Mo_k hx2, y3, uA_n _ hx]
  exact ⟨RSh_u h1 (fun x _ _ => es x (by omega) (by omega)) (fun a _ _ => er a (by omega) (by omega)), RTo_u h2 (fun x _ _ => es x (by omega) (by omega)) (fun a _ _ => er a (by omega) (by omega)), hS, Edn_c h4 (es 12 (by omega) (by omega)) (fun a _ _ => er a (by omega) (by omega)) hU⟩
theorem p_md_goesDay {v : Mem} {r k w D : Int} {c : Int → Int} {R S T U S' U' : Nat → Int → Int} {Q : Int → Mem → Prop} (hr : 0 ≤ r ∧ r < 6) (hk : 1 ≤ k ∧ k ≤ 40) (hw : 1 ≤ w ∧ w ≤ 80) (hRS : RS S T U (Mo v c) D) (hR : RR R (v 34) r) (hC : runC R w k.toNat S U S' U')
    (h : ∀ m U2, FrW v m → U2 11 0 = U' 11 0 + 1 → (∀ j, 2 ≤ j → j ≤ 12 → ¬ j = 11 → U2 j = U' j) → RS S' T U2 (Mo m c) (D + 1) → m 34 2 11 - v 34 2 11 = U' 10 0 - U 10 0 → Q (U' 10 0 - U 10 0) m) : W_md_goesDay r k w v Q := by
  refine w_md_goesDay (b_md_goesDay_0 ?_)
  have loop : ∀ i : Int, ∀ (ref : Int) (m : Mem) (S1 U1 : Nat → Int → Int), 0 ≤ i → i ≤ k → FrW v m → RS S1 T U1 (Mo m c) D → ref = U1 10 0 - U 10 0 → m 34 2 11 - v 34 2 11 = ref → runC R w (k - i).toNat S1 U1 S' U' → K_md_goesDay_6 Q r k w ref i m := by
    refine fun i => ind_up (P := fun i => ∀ (ref : Int) (m : Mem) (S1 U1 : Nat → Int → Int), 0 ≤ i → i ≤ k → FrW v m → RS S1 T U1 (Mo m c) D → ref = U1 10 0 - U 10 0 → m 34 2 11 - v 34 2 11 = ref → runC R w (k - i).toNat S1 U1 S' U' → K_md_goesDay_6 Q r k w ref i m) k (fun i ih ref m S1 U1 h0 h1 hF hRm e1 e2 hCm => ?_) i
    refine b_md_goesDay_6 ?_
    unfold T_md_goesDay_6 T_md_goesDay_44
    rw [wr_id (x := k) (by omega) (by omega), wr_id (x := i) (by omega) (by omega)]
    have hs := hRm.2.2.1
    refine ⟨fun q => ?_, fun q => ?_⟩
    · intro s1 x1
      obtain ⟨y1, y2, y3⟩ := updM_f x1
      rw [show (k - i).toNat = 0 by omega] at hCm
      obtain ⟨rfl, hU⟩ := hCm
      obtain ⟨s1', s2', s3', s4', s5', s6'⟩ := hs
      rw [Mo_c (by omega)] at s1' s2' s3' s4'
      rw [Mo_k (by omega)] at s5' s6'
      have e10 := congrFun (hU 10 (by omega) (by omega)) 0
      have hF1 : FrW v s1 := ⟨⟨fun a ha => by rw [y1 a ha, hF.1.1 a ha], fun j hj => by rw [y2 j (by omega), hF.1.2 j hj]⟩, fun x hx => by rw [y3, uA_n _ (by omega), hF.2 x hx]⟩
      rw [e1, ← e10]
      refine h s1 (fun j => if j = 11 then fun _ => U1 11 0 + 1 else U1 j) hF1 ?_ (fun j j0 j1 j2 => ?_) (RS_one hRm (Or.inl rfl) x1 ⟨?_, ?_, ?_, ?_, ?_, ?_⟩ (fun j j0 j1 => if_neg (by omega))) (by rw [y3, uA_n _ (by omega)]; omega)
      · show U1 11 0 + 1 = U' 11 0 + 1
        rw [hU 11 (by omega) (by omega)]
      · show (if j = 11 then fun _ => U1 11 0 + 1 else U1 j) = U' j
        rw [if_neg j2, hU j j0 j1]
      · show U1 7 0 = _
        rw [Mo_c (by omega), y3, uA_n _ (by omega)]
        exact s1'
      · show U1 8 0 = _
        rw [Mo_c (by omega), y3, uA_n _ (by omega)]
        exact s2'
      · show U1 9 0 = _
        rw [Mo_c (by omega), y3, uA_n _ (by omega)]
        exact s3'
      · show U1 10 0 = _
        rw [Mo_c (by omega), y3, uA_n _ (by omega)]
        exact s4'
      · show U1 11 0 + 1 = _ ∧ _
        rw [Mo_k (by omega), y3, uA_s]
        omega
      · show U1 12 0 = _ ∧ _
        rw [Mo_k (by omega), y3, uA_n _ (by omega)]
        exact s6'
    · rw [show (k - i).toNat = (k - (i + 1)).toNat + 1 by omega] at hCm
      obtain ⟨Ud, S2, U2, res, ⟨g1, g2⟩, hFill, hrest⟩ := hCm
      obtain ⟨s1', s2', s3', s4', s5', s6'⟩ := hs
      have h14 : U1 12 0 = m 34 2 14 ∧ 0 ≤ m 34 2 14 ∧ m 34 2 14 ≤ 2147483647 := by
        rw [Mo_k (by omega)] at s6'
        exact s6'
      have hx : 0 ≤ U1 12 0 ∧ U1 12 0 ≤ 2147483647 := by omega
      refine w_md_draws (b_md_draws_0 ?_)
      unfold T_md_draws_0
      intro s1 x1
      obtain ⟨y1, y2, y3⟩ := updM_f x1
      have ed : s1 34 2 14 = drw (U1 12 0) := by rw [y3, uA_s, h14.1]; rfl
      rw [ed, wr_id (x := w) (by omega) (by omega)]
      have en : 1 + irm (idv (drw (U1 12 0)) 65536) w = ordN (U1 12 0) w := rfl
      dsimp only
      rw [en]
      have hdb := drw_bd hx
      have hRd : RS S1 T Ud (Mo s1 c) D := by
        refine RS_one hRm (Or.inr rfl) x1 ⟨?_, ?_, ?_, ?_, ?_, ?_⟩ (fun j j0 j1 => g2 j (by omega) (by omega))
        · rw [Mo_c (by omega)] at s1' ⊢
          rw [g2 7 (by omega) (by omega), y3, uA_n _ (by omega)]
          exact s1'
        · rw [Mo_c (by omega)] at s2' ⊢
          rw [g2 8 (by omega) (by omega), y3, uA_n _ (by omega)]
          exact s2'
        · rw [Mo_c (by omega)] at s3' ⊢
          rw [g2 9 (by omega) (by omega), y3, uA_n _ (by omega)]
          exact s3'
        · rw [Mo_c (by omega)] at s4' ⊢
          rw [g2 10 (by omega) (by omega), y3, uA_n _ (by omega)]
          exact s4'
        · rw [Mo_k (by omega)] at s5' ⊢
          rw [g2 11 (by omega) (by omega), y3, uA_n _ (by omega)]
          exact s5'
        · rw [Mo_k (by omega), g1, ed]
          exact ⟨rfl, hdb⟩
      have hF1 : FrW v s1 := ⟨⟨fun a ha => by rw [y1 a ha, hF.1.1 a ha], fun j hj => by rw [y2 j (by omega), hF.1.2 j hj]⟩, fun x hx => by rw [y3, uA_n _ (by omega), hF.2 x hx]⟩
      have m11 : s1 34 2 11 = m 34 2 11 := by rw [y3, uA_n _ (by omega)]
      refine ⟨by omega, p_md_fill hr hRd (RR_V hR hF1.1) hFill (ordN_bd hx hw) (fun m2 f1 f2 f3 hR2 => ?_)⟩
      have hF2 : FrW v m2 := ⟨hF1.1.tr f1, fun x hx => by rw [f2 x (by omega), hF1.2 x hx]⟩
      have g10 := congrFun (g2 10 (by omega) (by omega)) 0
      have ih := ih (by omega)
      unfold T_md_goesDay_34 T_md_goesDay_35
      obtain ⟨-, -, hcase⟩ := hFill
      rcases hcase with ⟨q1, -, -, -, -, d10⟩ | ⟨⟨b0, b1, -⟩, S9, -, -, -, d10, -⟩
      · subst q1
        have f3 : m2 34 2 11 = s1 34 2 11 + 1 := f3
        refine br_f (by decide) (ih _ m2 S2 U2 (by omega) (by omega) hF2 hR2 (by omega) (by omega) hrest)
      · have hb4 := hRd.1.1.1
        have hb5 := hRd.1.1.2.1
        have wres : wr res = res := wr_id (by omega) (by omega)
        rw [wres]
        rw [if_neg (by omega)] at f3
        refine br_t (by omega) (ih _ m2 S2 U2 (by omega) (by omega) hF2 hR2 (by omega) (by omega) hrest)
  have := loop 0 0 v S U (by omega) (by omega) ⟨FrJ.rf, fun _ _ => rfl⟩ hRS (by omega) (by omega) (by rw [show k - 0 = k by omega]; exact hC)
  exact this
