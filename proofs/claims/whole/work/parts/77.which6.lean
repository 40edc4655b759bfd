/-! ===== WHICH: the reference's table ===== -/
theorem enc_bd {a b c : Int} (ha : 0 ≤ a ∧ a ≤ 40) (hb : 0 ≤ b ∧ b ≤ 40) (hc : 0 ≤ c ∧ c ≤ 40) : 0 ≤ enc a b c ∧ enc a b c ≤ 68920 := by
  unfold enc
  omega
theorem enc_inj {a b c a' b' c' : Int} (ha : 0 ≤ a ∧ a ≤ 40) (hb : 0 ≤ b ∧ b ≤ 40) (hc : 0 ≤ c ∧ c ≤ 40) (ha' : 0 ≤ a' ∧ a' ≤ 40) (hb' : 0 ≤ b' ∧ b' ≤ 40) (hc' : 0 ≤ c' ∧ c' ≤ 40) (h : enc a b c = enc a' b' c') : a = a' ∧ b = b' ∧ c = c' := by
  unfold enc at h
  omega
/-- what the table says of all states within L -/
def TBL (g : Int → Int) (at' : Int) (L : Int → Int) (f : Int → Int → Int → Int) : Prop := ∀ a b c, (0 ≤ a ∧ a ≤ L 0) → (0 ≤ b ∧ b ≤ L 1) → (0 ≤ c ∧ c ≤ L 2) → g (at' + enc a b c) = f a b c
/-- the states: as many BALES as there are -/
def LOK (L : Int → Int) (kk : Int) : Prop := (∀ i, 0 ≤ i → i < 3 → 0 ≤ L i ∧ L i ≤ 40) ∧ (0 ≤ kk ∧ kk ≤ 3) ∧ ∀ i, kk ≤ i → L i = 0
theorem p_md_mostFor {a b c n p at' th kk : Int} {L : Int → Int} {f : Int → Int → Int → Int} {s : Mem} {Q : Int → Mem → Prop} (hL : LOK L kk) (ha : 0 ≤ a ∧ a ≤ L 0) (hb : 0 ≤ b ∧ b ≤ L 1) (hc : 0 ≤ c ∧ c ≤ L 2) (hn : 1 ≤ n ∧ n ≤ 8) (hp : 0 ≤ p ∧ p ≤ 26873856) (hat : 0 ≤ at' ∧ at' ≤ 68921) (et : s 34 2 2 = th) (hth : 0 ≤ th ∧ th ≤ 8) (ek : s 34 62 0 = kk) (hT : TBL (s 34 59) at' L f) (hf : ∀ a b c, 0 ≤ f a b c ∧ f a b c ≤ 859963392) (h : Q (bst th p f a b c n) s) : W_md_mostFor (enc a b c) n p at' s Q := by
  obtain ⟨hL1, hL2, hL3⟩ := hL
  have l0 := hL1 0 (by omega) (by omega)
  have l1 := hL1 1 (by omega) (by omega)
  have l2 := hL1 2 (by omega) (by omega)
  have hnp : n * p ≤ 8 * p := Int.mul_le_mul_of_nonneg_right hn.2 hp.1
  have hnp0 : 0 ≤ n * p := Int.mul_nonneg (by omega) hp.1
  have he := enc_bd (a := a) (b := b) (c := c) (by omega) (by omega) (by omega)
  have ba := beh_bd (th := th) (x := a) (n := n) hth.1 (by omega) (by omega)
  have bb := beh_bd (th := th) (x := b) (n := n) hth.1 (by omega) (by omega)
  have bc := beh_bd (th := th) (x := c) (n := n) hth.1 (by omega) (by omega)
  have f0 := hf a b c
  have f1 := hf (beh th a n) b c
  have f2 := hf a (beh th b n) c
  have f3 := hf a b (beh th c n)
  have o1 := opt_le (v := decide (n ≤ a)) (x := n * p + f (beh th a n) b c) (b := f a b c) (B := 8 * p + 859963392) (by omega) (by omega) f0.1
  have o2 := opt_le (v := decide (n ≤ b)) (x := n * p + f a (beh th b n) c) (B := 8 * p + 859963392) (by omega) o1.2 o1.1
  have le1 : n ≤ a → beh th a n ≤ a := fun _ => by unfold beh; omega
  have le2 : n ≤ b → beh th b n ≤ b := fun _ => by unfold beh; omega
  have le3 : n ≤ c → beh th c n ≤ c := fun _ => by unfold beh; omega
  refine w_md_mostFor (b_md_mostFor_0 ?_)
  unfold T_md_mostFor_0
  rw [wr_id (x := at' + enc a b c) (by omega) (by omega), hT a b c ha hb hc]
  refine ⟨by omega, ?_⟩
  unfold bst at h
  -- one BALE more
  have step : ∀ (k y P v : Int), 0 ≤ k → k < 3 → (0 ≤ P ∧ P ≤ 8 * p + 859963392) → (y = if k = 0 then a else if k = 1 then b else c) → (n ≤ y → v = f (if k = 0 then beh th a n else a) (if k = 1 then beh th b n else b) (if k = 2 then beh th c n else c)) → (0 ≤ v ∧ v ≤ 859963392) → (kk ≤ k → T_md_mostFor_79 Q P s) → K_md_mostFor_14 Q (enc a b c) n p at' (opt (decide (n ≤ y)) (n * p + v) P) (k + 1) s → K_md_mostFor_14 Q (enc a b c) n p at' P k s := by
    intro k y P v k0 k1 hP hy hv hvb hend hgo
    refine b_md_mostFor_14 ?_
    unfold T_md_mostFor_14 T_md_mostFor_73 T_md_mostFor_69 T_md_mostFor_71 T_md_mostFor_73
    rw [ek, wr_id (x := kk) (by omega) (by omega), wr_id (x := k) (by omega) (by omega)]
    refine ⟨fun c1 => hend c1, fun c1 => p_md_leftIn (by omega) (by omega) (by omega) ⟨k0, k1⟩ ?_⟩
    rw [← hy]
    have yb : 0 ≤ y ∧ y ≤ 40 := by
      rw [hy]
      split
      · omega
      · split <;> omega
    rw [wr_id (x := y) (by omega) (by omega), wr_id (x := n) (by omega) (by omega)]
    refine ⟨fun c2 => ?_, fun c2 => p_md_stateBehind (by omega) (by omega) (by omega) ⟨k0, k1⟩ (by omega) et hth ?_⟩
    · rw [opt_f (fun z => by have := decide_eq_true_iff.mp z; omega)] at hgo
      exact hgo
    · have hny : n ≤ y := by omega
      have hv := hv hny
      rw [opt_t (decide_eq_true hny)] at hgo
      have hx : (0 ≤ (if k = 0 then beh th a n else a) ∧ (if k = 0 then beh th a n else a) ≤ L 0) ∧ (0 ≤ (if k = 1 then beh th b n else b) ∧ (if k = 1 then beh th b n else b) ≤ L 1) ∧ (0 ≤ (if k = 2 then beh th c n else c) ∧ (if k = 2 then beh th c n else c) ≤ L 2) := by
        rcases (show k = 0 ∨ k = 1 ∨ k = 2 by omega) with q | q | q <;> subst q
        · have hy : y = a := hy
          have := le1 (by omega)
          rw [if_pos rfl, if_neg (by decide), if_neg (by decide)]
          omega
        · have hy : y = b := hy
          have := le2 (by omega)
          rw [if_neg (by decide), if_pos rfl, if_neg (by decide)]
          omega
        · have hy : y = c := hy
          have := le3 (by omega)
          rw [if_neg (by decide), if_neg (by decide), if_pos rfl]
          omega
      generalize (if k = 0 then beh th a n else a) = a' at hv hx ⊢
      generalize (if k = 1 then beh th b n else b) = b' at hv hx ⊢
      generalize (if k = 2 then beh th c n else c) = c' at hv hx ⊢
      have he2 := enc_bd (a := a') (b := b') (c := c') (by omega) (by omega) (by omega)
      rw [wr_id (x := at' + enc a' b' c') (by omega) (by omega), hT a' b' c' hx.1 hx.2.1 hx.2.2, ← hv]
      refine ⟨by omega, ?_⟩
      rintro x7 rfl
      rw [lcp_le, wL_nn (x := n * p + v) (by omega), wL_nn (x := P) (by omega)]
      refine ⟨fun c3 => ?_, fun c3 => ?_⟩
      · rw [Int.max_eq_left c3] at hgo
        exact hgo
      · rw [Int.max_eq_right (by omega)] at hgo
        exact hgo
  have nof : ∀ {y : Int} {x P : Int}, y = 0 → opt (decide (n ≤ y)) x P = P := fun {y x P} hy => opt_f (fun z => by have := decide_eq_true_iff.mp z; omega)
  have z0 : kk ≤ 0 → a = 0 := fun q => by have := hL3 0 q; omega
  have z1 : kk ≤ 1 → b = 0 := fun q => by have := hL3 1 q; omega
  have z2 : kk ≤ 2 → c = 0 := fun q => by have := hL3 2 q; omega
  refine step 0 a _ (f (beh th a n) b c) (by omega) (by omega) (by omega) rfl (fun _ => rfl) f1 (fun q => ?_) (step 1 b _ (f a (beh th b n) c) (by omega) (by omega) o1 rfl (fun _ => rfl) f2 (fun q => ?_) (step 2 c _ (f a b (beh th c n)) (by omega) (by omega) o2 rfl (fun _ => rfl) f3 (fun q => ?_) ?_))
  · rw [nof (z2 (by omega)), nof (z1 (by omega)), nof (z0 (by omega))] at h
    exact h
  · rw [nof (z2 (by omega)), nof (z1 (by omega))] at h
    exact h
  · rw [nof (z2 (by omega))] at h
    exact h
  · refine b_md_mostFor_14 ?_
    unfold T_md_mostFor_14 T_md_mostFor_79
    rw [ek, wr_id (x := kk) (by omega) (by omega)]
    exact ⟨fun _ => h, fun z => absurd hL2.2 z⟩
theorem p_md_fillsMeans {m : Nat} {w : Int → Int} {tw th kk : Int} {L : Int → Int} {s : Mem} {Q : Int → Mem → Prop} (hm : m ≤ 4) (hW : WO w tw) (hw : ∀ i, 1 ≤ i → i ≤ 8 → s 34 27 i = w i) (et : s 34 2 2 = th) (hth : 0 ≤ th ∧ th ≤ 8) (ek : s 34 62 0 = kk) (hL : LOK L kk) (eL : ∀ i, 0 ≤ i → i < 3 → s 34 61 i = L i)
    (h : ∀ t at', FrJ 34 (fun j => j = 59) s t → (at' = 0 ∨ at' = 68921) → TBL (t 34 59) at' L (pm w tw th m) → Q at' t) : W_md_fillsMeans (m : Int) s Q := by
  have l0 := hL.1 0 (by omega) (by omega)
  have l1 := hL.1 1 (by omega) (by omega)
  have l2 := hL.1 2 (by omega) (by omega)
  have etw : smL (fun k => s 34 27 (k + 1)) 8 = tw := by
    rw [hW.2.1]
    exact smL_congr (fun k hk => hw _ (by omega) (by omega))
  refine w_md_fillsMeans (b_md_fillsMeans_0 ?_)
  have rounds : ∀ d k : Nat, m - k = d → k ≤ m → ∀ (at' : Int) (t : Mem), (at' = 0 ∨ at' = 68921) → FrJ 34 (fun j => j = 59) s t → TBL (t 34 59) at' L (pm w tw th k) → K_md_fillsMeans_29 Q (m : Int) at' (tw ^ k) (k : Int) t := by
    intro d
    induction d with
    | zero =>
      intro k hd hk at' t hat hF hT
      have e : k = m := by omega
      subst e
      refine b_md_fillsMeans_29 ?_
      unfold T_md_fillsMeans_29 T_md_fillsMeans_190
      exact ⟨fun _ => h t at' hF hat hT, fun z => absurd (Int.le_refl _) z⟩
    | succ d ih =>
      intro k hd hk at' t hat hF hT
      refine b_md_fillsMeans_29 ?_
      have hpb := pow_tw hW.2.2 k (by omega)
      have hfb := fun a b c => pm_b4 (th := th) hW k (by omega) a b c
      unfold T_md_fillsMeans_29
      rw [wr_id (x := (m : Int)) (by omega) (by omega), wr_id (x := (k : Int)) (by omega) (by omega)]
      refine ⟨fun z => by omega, fun _ => ?_⟩
      -- state by state
      have states : ∀ x : Int, ∀ u, 0 ≤ x → x ≤ 68921 → FrJ 34 (fun j => j = 59) s u → TBL (u 34 59) at' L (pm w tw th k) → (∀ a b c, (0 ≤ a ∧ a ≤ L 0) → (0 ≤ b ∧ b ≤ L 1) → (0 ≤ c ∧ c ≤ L 2) → enc a b c < x → u 34 59 (68921 - at' + enc a b c) = pm w tw th (k + 1) a b c) → K_md_fillsMeans_45 Q (m : Int) at' (tw ^ k) (k : Int) (68921 - at') x u := by
        refine fun x => ind_up (P := fun x => ∀ u, 0 ≤ x → x ≤ 68921 → FrJ 34 (fun j => j = 59) s u → TBL (u 34 59) at' L (pm w tw th k) → (∀ a b c, (0 ≤ a ∧ a ≤ L 0) → (0 ≤ b ∧ b ≤ L 1) → (0 ≤ c ∧ c ≤ L 2) → enc a b c < x → u 34 59 (68921 - at' + enc a b c) = pm w tw th (k + 1) a b c) → K_md_fillsMeans_45 Q (m : Int) at' (tw ^ k) (k : Int) (68921 - at') x u) 68921 (fun x ihx u x0 x1 hFu hTu hN => ?_) x
        refine b_md_fillsMeans_45 ?_
        unfold T_md_fillsMeans_45 T_md_fillsMeans_167
        rw [wr_id (x := x) (by omega) (by omega)]
        refine ⟨fun c => ?_, fun c => ?_⟩
        · unfold T_md_fillsMeans_173
          refine p_md_allWeights ?_
          rw [hFu.2 27 (by omega), etw, wr_id (x := tw) (by have := hW.2.2; omega) (by have := hW.2.2; omega), ← Int.pow_succ, show (k : Int) + 1 = ((k + 1 : Nat) : Int) by omega]
          refine ih (k + 1) (by omega) (by omega) (68921 - at') u (by omega) hFu (fun a b c ha hb hc => ?_)
          have := enc_bd (a := a) (b := b) (c := c) (by omega) (by omega) (by omega)
          exact hN a b c ha hb hc (by omega)
        · obtain ⟨a, b, cc, ex, ha, hb, hcc⟩ : ∃ a b cc, x = enc a b cc ∧ (0 ≤ a ∧ a ≤ 40) ∧ (0 ≤ b ∧ b ≤ 40) ∧ (0 ≤ cc ∧ cc ≤ 40) := ⟨x % 41, x / 41 % 41, x / 1681, by unfold enc; omega, by omega, by omega, by omega⟩
          have ihx := ihx (by omega)
          have skip : ¬ (a ≤ L 0 ∧ b ≤ L 1 ∧ cc ≤ L 2) → K_md_fillsMeans_45 Q (m : Int) at' (tw ^ k) (k : Int) (68921 - at') (x + 1) u := fun hno => by
            refine ihx u (by omega) (by omega) hFu hTu (fun a' b' c' ha' hb' hc' hlt => hN a' b' c' ha' hb' hc' ?_)
            refine Decidable.byContradiction fun z => hno ?_
            have := enc_inj (a := a') (b := b') (c := c') (a' := a) (b' := b) (c' := cc) (by omega) (by omega) (by omega) ha hb hcc (by omega)
            omega
          have e61 : ∀ i, 0 ≤ i → i < 3 → u 34 61 i = L i := fun i i0 i1 => by rw [hFu.2 61 (by omega)]; exact eL i i0 i1
          rw [ex]
          refine p_md_leftIn ha hb hcc (by omega) ?_
          rw [if_pos rfl, e61 0 (by omega) (by omega), wr_id (x := L 0) (by omega) (by omega), wr_id (x := a) (by omega) (by omega), ← ex]
          refine ⟨fun q => skip (by omega), fun q0 => ?_⟩
          rw [ex]
          refine p_md_leftIn ha hb hcc (by omega) ?_
          rw [if_neg (by decide), if_pos rfl, e61 1 (by omega) (by omega), wr_id (x := L 1) (by omega) (by omega), wr_id (x := b) (by omega) (by omega), ← ex]
          refine ⟨fun q => skip (by omega), fun q1 => ?_⟩
          rw [ex]
          refine p_md_leftIn ha hb hcc (by omega) ?_
          rw [if_neg (by decide), if_neg (by decide), e61 2 (by omega) (by omega), wr_id (x := L 2) (by omega) (by omega), wr_id (x := cc) (by omega) (by omega), ← ex]
          refine ⟨fun q => skip (by omega), fun q2 => ?_⟩
          -- the sum over the WEIGHTS
          have sums : ∀ e i : Nat, 8 - i = e → i ≤ 8 → K_md_fillsMeans_104 Q (m : Int) at' (tw ^ k) (k : Int) (68921 - at') x (smL (fun k' => w (k' + 1) * bst th (tw ^ k) (pm w tw th k) a b cc (k' + 1)) i) ((i : Int) + 1) u := by
            intro e
            induction e with
            | zero =>
              intro i he hi
              have ei : i = 8 := by omega
              subst ei
              refine b_md_fillsMeans_104 ?_
              unfold T_md_fillsMeans_104 T_md_fillsMeans_155 T_md_fillsMeans_167
              rw [wr_id (x := 68921 - at' + x) (by omega) (by omega)]
              refine ⟨fun _ => ⟨by omega, fun s1 x1 => ?_⟩, fun z => absurd (by decide) z⟩
              obtain ⟨b1, b2, b3⟩ := updM_f x1
              refine ihx s1 (by omega) (by omega) (hFu.tr ⟨b1, fun j q => b2 j q⟩) (fun a' b' c' ha' hb' hc' => ?_) (fun a' b' c' ha' hb' hc' hlt => ?_)
              · have he' := enc_bd (a := a') (b := b') (c := c') (by omega) (by omega) (by omega)
                rw [b3, uA_n _ (by omega)]
                exact hTu a' b' c' ha' hb' hc'
              · rw [b3]
                by_cases z : enc a' b' c' = x
                · obtain ⟨r1, r2, r3⟩ := enc_inj (a := a') (b := b') (c := c') (a' := a) (b' := b) (c' := cc) (by omega) (by omega) (by omega) ha hb hcc (by omega)
                  subst r1
                  subst r2
                  subst r3
                  rw [z, uA_s, pm_s]
                · rw [uA_n _ (by omega)]
                  exact hN a' b' c' ha' hb' hc' (by omega)
            | succ e ihe =>
              intro i he hi
              refine b_md_fillsMeans_104 ?_
              have hwi := hW.1 ((i : Int) + 1) (by omega) (by omega)
              have hew := hw ((i : Int) + 1) (by omega) (by omega)
              have ihe : K_md_fillsMeans_104 Q (m : Int) at' (tw ^ k) (k : Int) (68921 - at') x (smL (fun k' => w (k' + 1) * bst th (tw ^ k) (pm w tw th k) a b cc (k' + 1)) i + w ((i : Int) + 1) * bst th (tw ^ k) (pm w tw th k) a b cc ((i : Int) + 1)) (((i + 1 : Nat) : Int) + 1) u := ihe (i + 1) (by omega) (by omega)
              rw [show ((i + 1 : Nat) : Int) = (i : Int) + 1 by omega] at ihe
              unfold T_md_fillsMeans_104 T_md_fillsMeans_127 T_md_fillsMeans_146
              rw [wr_id (x := (i : Int) + 1) (by omega) (by omega), hFu.2 27 (by omega), hew, wr_id (x := w ((i : Int) + 1)) (by omega) (by omega)]
              refine ⟨fun z => by omega, fun _ => ⟨by omega, fun c2 => ⟨by omega, ?_⟩, fun c2 => ?_⟩⟩
              · rw [ex]
                refine p_md_mostFor (th := th) (f := pm w tw th k) hL (by omega) (by omega) (by omega) (by omega) (by omega) (by omega) (by rw [hFu.2 2 (by omega)]; exact et) hth (by rw [hFu.2 62 (by omega)]; exact ek) hTu hfb ?_
                rw [← ex]
                exact ihe
              · have e0 : w ((i : Int) + 1) = 0 := Decidable.byContradiction c2
                rw [e0, Int.zero_mul] at ihe
                exact ihe
          have := sums 8 0 (by omega) (by omega)
          exact this
      exact states 0 t (by omega) (by omega) hF hT (fun a b c ha hb hc hlt => by have := enc_bd (a := a) (b := b) (c := c) (by omega) (by omega) (by omega); omega)
  have init : ∀ x : Int, ∀ t, 0 ≤ x → x ≤ 68921 → FrJ 34 (fun j => j = 59) s t → (∀ y, 0 ≤ y → y < x → t 34 59 y = 0) → K_md_fillsMeans_2 Q (m : Int) x t := by
    refine fun x => ind_up (P := fun x => ∀ t, 0 ≤ x → x ≤ 68921 → FrJ 34 (fun j => j = 59) s t → (∀ y, 0 ≤ y → y < x → t 34 59 y = 0) → K_md_fillsMeans_2 Q (m : Int) x t) 68921 (fun x ih t x0 x1 hF hZ => ?_) x
    refine b_md_fillsMeans_2 ?_
    unfold T_md_fillsMeans_2 T_md_fillsMeans_22
    rw [wr_id (x := x) (by omega) (by omega)]
    refine ⟨fun c => ?_, fun c => ⟨by omega, fun s2 x2 => ?_⟩⟩
    · have := rounds m 0 (by omega) (by omega) 0 t (Or.inl rfl) hF (fun a b c ha hb hc => by
        have he := enc_bd (a := a) (b := b) (c := c) (by omega) (by omega) (by omega)
        rw [Int.zero_add]
        exact hZ _ he.1 (by omega))
      rw [Int.pow_zero] at this
      exact this
    · obtain ⟨b1, b2, b3⟩ := updM_f x2
      refine ih (by omega) s2 (by omega) (by omega) (hF.tr ⟨b1, fun j q => b2 j q⟩) (fun y y0 y1 => ?_)
      rw [b3]
      by_cases z : y = x
      · rw [uA_e _ z]
      · rw [uA_n _ z]
        exact hZ y y0 (by omega)
  exact init 0 s (by omega) (by omega) FrJ.rf (fun y y0 y1 => by omega)
