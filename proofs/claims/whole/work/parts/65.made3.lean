/-! ===== MADE: the reference's table over the sets of ENDS ===== -/
theorem bShl_n {n : Nat} (h : n < 11) : bShl 1 (n : Int) = ((2 ^ n : Nat) : Int) := shl_dec n h
theorem pow_le {n : Nat} (h : n ≤ 10) : 1 ≤ 2 ^ n ∧ 2 ^ n ≤ 1024 := by
  have h1 : 2 ^ n ≤ 2 ^ 10 := Nat.pow_le_pow_right (by omega) h
  have h2 : 0 < 2 ^ n := Nat.pow_pos (by omega)
  omega
theorem p_md_madeT {n : Nat} {W : Int} {A : Int → Int} {s : Mem} {Q : Int → Mem → Prop} (hn : n ≤ 10) (eA : s 34 64 = A) (hA : ∀ i : Int, 0 ≤ i → i < n → 0 ≤ A i ∧ A i ≤ 1000000) (hp : 0 ≤ s 34 2 6 ∧ s 34 2 6 ≤ 80) (eW : s 34 2 7 = W) (hW : 0 ≤ W ∧ W ≤ 999) (hl : ∀ i : Int, 0 ≤ i → i < n → (1 ≤ s 34 22 i ∧ s 34 22 i ≤ 80) ∧ 0 ≤ s 34 24 i ∧ s 34 24 i ≤ 9)
    (h : ∀ t, FrJ 34 (fun j => j = 65) s t → Q (VV W A n (elN (s 34 2 6) (s 34 22)) (s 34 24) (mem (2 ^ n - 1))) t) : T_md_made_48 Q (n : Int) s := by
  have hpw := pow_le hn
  have hmem : ∀ x : Nat, x < 2 ^ n → aOK A (mem x) := fun x hx i hi => by
    refine hA i (Decidable.byContradiction fun z => ?_) (Decidable.byContradiction fun z => ?_)
    · rw [mem_neg (by omega)] at hi
      exact absurd hi (by decide)
    · rw [mem_top hx (by omega)] at hi
      exact absurd hi (by decide)
  have hbd : ∀ x : Nat, x < 2 ^ n → 0 ≤ VV W A n (elN (s 34 2 6) (s 34 22)) (s 34 24) (mem x) ∧ VV W A n (elN (s 34 2 6) (s 34 22)) (s 34 24) (mem x) ≤ 20000000 := fun x hx => VV_mono0 hW (hmem x hx) hn
  generalize hV : (fun x : Nat => VV W A n (elN (s 34 2 6) (s 34 22)) (s 34 24) (mem x)) = V
  have hVx : ∀ x, VV W A n (elN (s 34 2 6) (s 34 22)) (s 34 24) (mem x) = V x := fun x => by rw [← hV]
  have hbd : ∀ x : Nat, x < 2 ^ n → 0 ≤ V x ∧ V x ≤ 20000000 := fun x hx => by rw [← hVx]; exact hbd x hx
  intro s1 x1
  obtain ⟨a1, a2, a3⟩ := updM_f x1
  have outer : ∀ c : Nat, ∀ (x : Nat) (t : Mem), 2 ^ n - x = c → 1 ≤ x → x ≤ 2 ^ n → FrJ 34 (fun j => j = 65) s t → (∀ y : Nat, y < x → t 34 65 (y : Int) = V y) → K_md_made_57 Q (n : Int) (x : Int) t := by
    intro c
    induction c with
    | zero =>
      intro x t hc x0 x1 hF hT
      refine b_md_made_57 ?_
      unfold T_md_made_57 T_md_made_189
      rw [bShl_n (by omega), wr_id (x := ((2 ^ n : Nat) : Int)) (by omega) (by omega), wr_id (x := (x : Int)) (by omega) (by omega), wr_id (x := ((2 ^ n : Nat) : Int) - 1) (by omega) (by omega)]
      refine ⟨fun _ => ⟨by omega, ?_⟩, fun z => by omega⟩
      rw [show ((2 ^ n : Nat) : Int) - 1 = ((2 ^ n - 1 : Nat) : Int) by omega, hT (2 ^ n - 1) (by omega), ← hVx]
      exact h t hF
    | succ c ih =>
      intro x t hc x0 x1 hF hT
      refine b_md_made_57 ?_
      unfold T_md_made_57
      rw [bShl_n (by omega), wr_id (x := ((2 ^ n : Nat) : Int)) (by omega) (by omega), wr_id (x := (x : Int)) (by omega) (by omega)]
      refine ⟨fun z => by omega, fun _ => ?_⟩
      have x2 : x < 2 ^ n := by omega
      have e2 : t 34 2 = s 34 2 := hF.2 2 (by omega)
      have e22 : t 34 22 = s 34 22 := hF.2 22 (by omega)
      have e24 : t 34 24 = s 34 24 := hF.2 24 (by omega)
      have e64 : t 34 64 = A := (hF.2 64 (by omega)).trans eA
      -- the lowest END of the set
      have low : ∀ d : Nat, ∀ e : Nat, 10 - e = d → (∀ i : Int, i < e → mem x i = false) → K_md_made_66 Q (n : Int) (x : Int) (e : Int) t := by
        intro d
        induction d with
        | zero =>
          intro e he hlow
          have : x = 0 := mem_z (fun i => by
            by_cases q : i < e
            · exact hlow i q
            · exact mem_top x2 (by omega))
          omega
        | succ d ihd =>
          intro e he hlow
          have hen : e < n := by
            refine Decidable.byContradiction fun z => ?_
            have : x = 0 := mem_z (fun i => by
              by_cases q : i < e
              · exact hlow i q
              · exact mem_top x2 (by omega))
            omega
          refine b_md_made_66 ?_
          unfold T_md_made_66
          refine p_md_has (by omega) (by omega) (zf (fun he1 => ?_) (fun he1 => ?_))
          · obtain ⟨r1, r2⟩ := less_dec e (by omega) x (by omega) (by rw [mem_k] at he1; exact he1)
            have hmr : mem (x ^^^ 2 ^ e) = um (mem x) (e : Int) := mem_xor (by rw [mem_k] at he1; exact he1)
            generalize x ^^^ 2 ^ e = rs at r1 r2 hmr
            unfold T_md_made_80
            intro y1 ey1
            rw [r1] at ey1
            subst ey1
            rw [wr_id (x := (rs : Int)) (by omega) (by omega), wr_id (x := (e : Int)) (by omega) (by omega)]
            refine ⟨by omega, by omega, ?_⟩
            intro y2 ey2
            rw [hT rs r2, e64] at ey2
            subst ey2
            have hAe := hA e (by omega) (by omega)
            have v1 : V rs + A e ≤ V x := by
              rw [← hVx, ← hVx, hmr]
              exact VS1 he1 (by omega)
            have hqe := (hl e (by omega) (by omega)).2
            -- all that may go with it
            have pairs : ∀ f : Nat, ∀ (o : Nat) (b : Int), n - o = f → e < o → o ≤ n → V rs + A e ≤ b → b ≤ V x → (∀ i : Int, e < i → i < o → mem x i = true → VV W A n (elN (s 34 2 6) (s 34 22)) (s 34 24) (um (um (mem x) e) i) + prW W (elN (s 34 2 6) (s 34 22)) (s 34 24) e i ≤ b) → K_md_made_110 Q (n : Int) (x : Int) (e : Int) (rs : Int) b (o : Int) t := by
              intro f
              induction f with
              | zero =>
                intro o b hf ho0 ho1 b0 b1 hb
                refine b_md_made_110 ?_
                unfold T_md_made_110 T_md_made_175
                have hbx := hbd x x2
                rw [wr_id (x := (n : Int)) (by omega) (by omega), wr_id (x := (o : Int)) (by omega) (by omega), wr_id (x := (x : Int)) (by omega) (by omega)]
                refine ⟨fun _ => ⟨by omega, fun s2 z2 => ?_⟩, fun z => by omega⟩
                obtain ⟨g1, g2, g3⟩ := updM_f z2
                have eb : b = V x := by
                  refine Int.le_antisymm b1 ?_
                  rw [← hVx]
                  rcases VS3 (el := elN (s 34 2 6) (s 34 22)) (q := s 34 24) (n := n) hW (hmem x x2) he1 (by omega) hqe with z | ⟨i, i0, i1, i2, i3⟩
                  · rw [← hmr, hVx rs] at z
                    omega
                  · have hi : e < i := by
                      refine Decidable.byContradiction fun w => ?_
                      rw [hlow i (by omega)] at i1
                      exact absurd i1 (by decide)
                    have := hb i hi (by omega) i1
                    omega
                have := ih (x + 1) s2 (by omega) (by omega) (by omega) (hF.tr ⟨g1, fun j q => g2 j q⟩) (fun y hy => by
                  rw [g3]
                  by_cases q : y = x
                  · subst q
                    rw [uA_s, eb]
                  · rw [uA_n _ (by omega)]
                    exact hT y (by omega))
                rw [show ((x + 1 : Nat) : Int) = (x : Int) + 1 by omega] at this
                exact this
              | succ f ihf =>
                intro o b hf ho0 ho1 b0 b1 hb
                refine b_md_made_110 ?_
                unfold T_md_made_110
                have hbx := hbd x x2
                have hbr := hbd rs (by omega)
                have ihf := fun b' => ihf (o + 1) b' (by omega) (by omega) (by omega)
                rw [show ((o + 1 : Nat) : Int) = (o : Int) + 1 by omega] at ihf
                have on : o < n := by omega
                have hAo := hA o (by omega) (by omega)
                rw [wr_id (x := (n : Int)) (by omega) (by omega), wr_id (x := (o : Int)) (by omega) (by omega)]
                have go : ∀ y : Int, 0 ≤ y → y ≤ 100000000 → (b ≤ y → y ≤ V x) → (mem x (o : Int) = true → VV W A n (elN (s 34 2 6) (s 34 22)) (s 34 24) (um (um (mem x) e) o) + prW W (elN (s 34 2 6) (s 34 22)) (s 34 24) e o ≤ y) → T_md_made_151 Q (n : Int) (x : Int) (e : Int) (rs : Int) b (o : Int) y t := fun y y0 y1 y2 y3 => by
                  unfold T_md_made_151 T_md_made_165 T_md_made_167
                  rw [wr_id (x := b) (by omega) (by omega), wr_id (x := y) (by omega) (by omega)]
                  refine ⟨fun c => ihf b b0 b1 (fun i i0 i1 hi => ?_), fun c => ihf y (by omega) (y2 (by omega)) (fun i i0 i1 hi => ?_)⟩
                  · by_cases q : i = o
                    · subst q
                      have := y3 hi
                      omega
                    · exact hb i i0 (by omega) hi
                  · by_cases q : i = o
                    · subst q
                      exact y3 hi
                    · have := hb i i0 (by omega) hi
                      omega
                refine ⟨fun z => by omega, fun _ => p_md_has (by omega) (by omega) (zt (fun ho2 => ?_) (fun ho2 => ?_))⟩
                · have hor : Nat.testBit rs o = true := by
                    have : mem rs (o : Int) = true := by rw [hmr, um_n (by omega)]; exact ho2
                    rw [mem_k] at this
                    exact this
                  obtain ⟨p1, p2⟩ := less_dec o (by omega) rs (by omega) hor
                  have hm2 : mem (rs ^^^ 2 ^ o) = um (um (mem x) (e : Int)) (o : Int) := by rw [mem_xor hor, hmr]
                  generalize rs ^^^ 2 ^ o = rs2 at p1 p2 hm2
                  have hb2 := hbd rs2 (by omega)
                  rw [p1, wr_id (x := (rs2 : Int)) (by omega) (by omega), hT rs2 (by omega)]
                  have hv2 := VS2 (el := elN (s 34 2 6) (s 34 22)) (q := s 34 24) (n := n) (o := (o : Int)) hW (hmem x x2) hn he1 ho2 (by omega) (by omega) (by omega) hqe
                  have hpr : 0 ≤ prW W (elN (s 34 2 6) (s 34 22)) (s 34 24) e o := by
                    unfold prW
                    split <;> omega
                  rw [← hm2, hVx, hVx] at hv2
                  refine ⟨by omega, p_md_pairOf (n := (n : Int)) (by omega) (by omega) (by omega) (by rw [e2]; exact hp) (by rw [e2, eW]; exact hW) (by rw [e22, e24]; exact hl) ?_⟩
                  rw [e2, e22, e24, eW]
                  refine go _ (by omega) (by omega) (fun _ => hv2) (fun _ => ?_)
                  rw [← hm2, hVx]
                  exact Int.le_refl _
                · unfold T_md_made_150
                  refine go 0 (by omega) (by omega) (fun _ => by omega) (fun z => absurd z ho2)
            have := pairs (n - (e + 1)) (e + 1) (V rs + A e) (by omega) (by omega) (by omega) (Int.le_refl _) v1 (fun i i0 i1 => by omega)
            rw [show ((e + 1 : Nat) : Int) = (e : Int) + 1 by omega] at this
            exact this
          · have := ihd (e + 1) (by omega) (fun i hi => by
              by_cases q : i = e
              · subst q
                cases hx : mem x (e : Int) with
                | false => rfl
                | true => exact absurd hx he1
              · exact hlow i (by omega))
            rw [show ((e + 1 : Nat) : Int) = (e : Int) + 1 by omega] at this
            exact this
      have := low 10 0 (by omega) (fun i hi => mem_neg hi)
      exact this
  have := outer (2 ^ n - 1) 1 s1 rfl (by omega) (by omega) ⟨a1, fun j q => a2 j q⟩ (fun y hy => by
    have : y = 0 := by omega
    subst this
    rw [a3, ← hVx, VV_z hW mem_0]
    exact uA_s _ _ _)
  exact this
theorem p_md_made {s : Mem} {A : Int → Int} {Q : Int → Mem → Prop} (hn : 0 ≤ s 34 2 12 ∧ s 34 2 12 ≤ 10) (hF : FF (s 34 9) (s 34 10) (s 34 11) (s 34 2 5)) (hp : 0 ≤ s 34 2 6 ∧ s 34 2 6 ≤ 80) (hW : 0 ≤ s 34 2 7 ∧ s 34 2 7 ≤ 999) (hl : ∀ i : Int, 0 ≤ i → i < s 34 2 12 → (1 ≤ s 34 22 i ∧ s 34 22 i ≤ 80) ∧ (1 ≤ s 34 23 i ∧ s 34 23 i ≤ 99) ∧ 0 ≤ s 34 24 i ∧ s 34 24 i ≤ 9)
    (hA : ∀ i x : Int, 0 ≤ i → i < s 34 2 12 → AL (s 34 9) (s 34 10) (s 34 11) (s 34 2 5) (s 34 23 i) (s 34 22 i) x → x = A i ∧ 0 ≤ x ∧ x ≤ 1000000)
    (h : ∀ t, FrJ 34 (fun j => 63 ≤ j ∧ j ≤ 65) s t → Q (VV (s 34 2 7) A (s 34 2 12).toNat (elN (s 34 2 6) (s 34 22)) (s 34 24) (fuN (s 34 2 12))) t) : W_md_made s Q := by
  refine w_md_made (b_md_made_0 ?_)
  have loop : ∀ i : Int, ∀ t : Mem, 0 ≤ i → i ≤ s 34 2 12 → FrJ 34 (fun j => j = 63 ∨ j = 64) s t → (∀ x, 0 ≤ x → x < i → AL (s 34 9) (s 34 10) (s 34 11) (s 34 2 5) (s 34 23 x) (s 34 22 x) (t 34 64 x)) → K_md_made_10 Q (s 34 2 12) i t := by
    refine fun i => ind_up (P := fun i => ∀ t : Mem, 0 ≤ i → i ≤ s 34 2 12 → FrJ 34 (fun j => j = 63 ∨ j = 64) s t → (∀ x, 0 ≤ x → x < i → AL (s 34 9) (s 34 10) (s 34 11) (s 34 2 5) (s 34 23 x) (s 34 22 x) (t 34 64 x)) → K_md_made_10 Q (s 34 2 12) i t) (s 34 2 12) (fun i ih t i0 i1 hFt hT => ?_) i
    refine b_md_made_10 ?_
    unfold T_md_made_10
    rw [wr_id (x := s 34 2 12) (by omega) (by omega), wr_id (x := i) (by omega) (by omega)]
    refine ⟨fun c => ?_, fun c => ⟨by omega, ?_⟩⟩
    · have ei : i = s 34 2 12 := by omega
      subst ei
      have e2 : t 34 2 = s 34 2 := hFt.2 2 (by omega)
      have e22 : t 34 22 = s 34 22 := hFt.2 22 (by omega)
      have e24 : t 34 24 = s 34 24 := hFt.2 24 (by omega)
      have := p_md_madeT (n := (s 34 2 12).toNat) (W := s 34 2 7) (A := t 34 64) (s := t) (Q := Q) (by omega) rfl (fun i i0 i1 => (hA i _ i0 (by omega) (hT i i0 (by omega))).2) (by rw [e2]; exact hp) (by rw [e2]) hW (fun i i0 i1 => by rw [e22, e24]; exact ⟨(hl i i0 (by omega)).1, (hl i i0 (by omega)).2.2⟩) (fun u hFu => by
        have hh := h u ((hFt.mono (fun j q => by omega)).tr (hFu.mono (fun j q => by omega)))
        rw [e2, e22, e24, VV_cong (a' := A) (el' := elN (s 34 2 6) (s 34 22)) (q' := s 34 24) (t' := fuN (s 34 2 12)) (fun x x0 x1 => ⟨(hA x _ x0 (by omega) (hT x x0 (by omega))).1, rfl, rfl, by rw [mem_full ⟨x0, x1⟩]; exact (fuN_t.mpr ⟨x0, by omega⟩).symm⟩)]
        exact hh)
      rw [ei_nat hn.1] at this
      exact this
    · obtain ⟨⟨l1, l2⟩, ⟨l3, l4⟩, l5⟩ := hl i i0 (by omega)
      rw [hFt.2 23 (by omega)]
      refine p_md_fillsWorths (by rw [hFt.2 9 (by omega), hFt.2 10 (by omega), hFt.2 11 (by omega), hFt.2 2 (by omega)]; exact hF) (wr_id (by omega) (by omega)) (fun t2 hF2 hT2 => ⟨by omega, ?_⟩)
      rw [hFt.2 9 (by omega), hFt.2 10 (by omega), hFt.2 11 (by omega), hFt.2 2 (by omega)] at hT2
      rw [hF2.2 22 (by omega), hFt.2 22 (by omega), wr_id (x := s 34 22 i) (by omega) (by omega)]
      refine ⟨by omega, by omega, fun s3 x3 => ?_⟩
      obtain ⟨y1, y2, y3⟩ := updM_f x3
      refine ih (by omega) s3 (by omega) (by omega) (hFt.tr ⟨fun o q => by rw [y1 o q, hF2.1 o q], fun j q => by rw [y2 j (by omega), hF2.2 j (by omega)]⟩) (fun x x0 x1 => ?_)
      rw [y3]
      by_cases q : x = i
      · subst q
        rw [uA_s]
        exact ⟨_, hT2, rfl⟩
      · rw [uA_n _ q, hF2.2 64 (by omega)]
        exact hT x x0 (by omega)
  exact loop 0 s (by omega) hn.1 FrJ.rf (fun x x0 x1 => by omega)
theorem g_made {s : Mem} (h : Inv s) : Ag s W_ce_made W_md_made := by
  obtain ⟨⟨k1, k2, k3⟩, k4⟩ := Inv_end h
  obtain ⟨-, -, -, ⟨p1, p2, p3⟩, w1, w2, w3⟩ := Inv_sca h
  obtain ⟨f1, f2, f3, f4⟩ := Inv_frm h
  refine w_ce_made (b_ce_made_0 (p_fm_worth h (fun t A hF hA => ?_)))
  have t34 : t 34 = s 34 := hF.1 34 (by omega)
  refine p_md_made (A := A) (by rw [t34]; exact ⟨k2, k3⟩) (by rw [t34]; exact f1) (by rw [t34]; exact ⟨p2, p3⟩) (by rw [t34]; exact ⟨w2, w3⟩) (fun i i0 i1 => by rw [t34] at i1 ⊢; obtain ⟨⟨-, e1⟩, ⟨-, e2⟩, ⟨-, e3⟩, -⟩ := k4 i i0 i1; exact ⟨e1, e2, e3⟩) (fun i x i0 i1 hx => ?_) (fun u hFu => ⟨?_, ?_⟩)
  · rw [t34] at i1
    obtain ⟨⟨e1, e2, e3⟩, ⟨e4, e5, e6⟩, -⟩ := k4 i i0 i1
    have hb := AL_bd hx (by rw [t34]; omega)
    obtain ⟨T', hT', rfl⟩ := hx
    obtain ⟨T, hT, eT⟩ := hA i i0 i1
    rw [eT]
    rw [show t 34 22 i = s 34 22 i by rw [t34]] at hb ⊢
    rw [show t 34 23 i = s 34 23 i by rw [t34], ← e4] at hT'
    rw [e1]
    refine ⟨?_, hb⟩
    exact (frm_u h t34 hT hT' _ (by omega) (by omega)).symm
  · rw [t34]
    congr 1
    refine VV_cong (fun x x0 x1 => ?_)
    obtain ⟨⟨e1, e2, e3⟩, -, ⟨e4, -⟩, -⟩ := k4 x x0 (by omega)
    refine ⟨rfl, ?_, e4, rfl⟩
    unfold elN
    rw [e1]
  · exact Inv_Mo (Inv_C h (fun o ho => hF.1 o (by omega))) (hFu.mono (fun j q => by unfold kpJ; omega))
