/-! ===== days ===== -/
def dysC (R : Nat → Int → Int) (k : Nat) (w : Int) : Nat → (Nat → Int → Int) → (Nat → Int → Int) → (Nat → Int → Int) → (Nat → Int → Int) → Prop
  | 0, S, U, S', U' => S' = S ∧ ∀ j, 2 ≤ j → j ≤ 12 → U' j = U j
  | d + 1, S, U, S', U' => ∃ S1 U1 U2, runC R w k S U S1 U1 ∧ (U2 11 0 = U1 11 0 + 1 ∧ ∀ j, 2 ≤ j → j ≤ 12 → ¬ j = 11 → U2 j = U1 j) ∧ dysC R k w d S1 U2 S' U'
theorem p_md_lay {j0 j1 n : Nat} {s : Mem} {Q : Mem → Prop} (h0 : arrK 3 n 34 j0) (h1 : arrK 3 n 34 j1) (hne : ¬ j0 = j1) (hn : n ≤ 1000) (h : ∀ t, FrJ 34 (fun j => j = j1) s t → (∀ k : Int, 0 ≤ k → k < n → t 34 j1 k = s 34 j0 k) → Q t) : W_md_lay 34 j0 n 34 j1 n s Q := by
  refine w_md_lay (b_md_lay_0 h0 h1 ?_)
  have loop : ∀ i : Int, ∀ t, 0 ≤ i → i ≤ n → FrJ 34 (fun j => j = j1) s t → (∀ k : Int, 0 ≤ k → k < i → t 34 j1 k = s 34 j0 k) → K_md_lay_2 Q 34 j0 n 34 j1 n i t := by
    refine fun i => ind_up (P := fun i => ∀ t, 0 ≤ i → i ≤ n → FrJ 34 (fun j => j = j1) s t → (∀ k : Int, 0 ≤ k → k < i → t 34 j1 k = s 34 j0 k) → K_md_lay_2 Q 34 j0 n 34 j1 n i t) n (fun i ih t i0 i1 hF hv => ?_) i
    refine b_md_lay_2 h0 h1 ?_
    unfold T_md_lay_2 T_md_lay_20
    rw [wr_id (x := (n : Int)) (by omega) (by omega), wr_id (x := i) (by omega) (by omega)]
    refine ⟨fun c => h t hF (fun k k0 k1 => hv k k0 (by omega)), fun c => ⟨by omega, by omega, fun s2 x2 => ?_⟩⟩
    obtain ⟨y1, y2, y3⟩ := updM_f x2
    refine ih (by omega) s2 (by omega) (by omega) (hF.tr ⟨y1, fun j q => y2 j q⟩) (fun k k0 k1 => ?_)
    rw [y3]
    by_cases q : k = i
    · rw [uA_e _ q, q, hF.2 j0 hne]
    · rw [uA_n _ q]
      exact hv k k0 (by omega)
  exact loop 0 s (by omega) (by omega) FrJ.rf (fun k k0 k1 => by omega)
theorem p_sd_clearCounts {s : Mem} {Q : Mem → Prop} (h : ∀ t, (∀ o, ¬ o = 5 → t o = s o) → (∀ j, ¬ (7 ≤ j ∧ j ≤ 10) → t 5 j = s 5 j) → t 5 7 0 = 0 → t 5 8 0 = 0 → t 5 9 0 = 0 → t 5 10 0 = 0 → Q t) : W_sd_clearCounts 5 s Q := by
  refine w_sd_clearCounts (b_sd_clearCounts_0 rfl ?_)
  intro s1 x1 s2 x2 s3 x3 s4 x4
  obtain ⟨a1, a2, a3⟩ := updM_f x1
  obtain ⟨b1, b2, b3⟩ := updM_f x2
  obtain ⟨c1, c2, c3⟩ := updM_f x3
  obtain ⟨d1, d2, d3⟩ := updM_f x4
  refine h s4 (fun o ho => by rw [d1 o ho, c1 o ho, b1 o ho, a1 o ho]) (fun j hj => by rw [d2 j (by omega), c2 j (by omega), b2 j (by omega), a2 j (by omega)]) ?_ ?_ ?_ ?_
  · rw [d2 7 (by omega), c2 7 (by omega), b2 7 (by omega), a3, uA_s]
  · rw [d2 8 (by omega), c2 8 (by omega), b3, uA_s]
  · rw [d2 9 (by omega), c3, uA_s]
  · rw [d3, uA_s]
/-- what days answers, of a Stand -/
def dyA (S U : Nat → Int → Int) (x : Int) : Int := if x = 0 then U 7 0 else if x = 1 then U 8 0 else if x = 2 then U 9 0 else if x = 3 then U 10 0 else smL (S 0) (S 4 0).toNat
theorem p_ce_daysL {a d k w x : Int} {R m : Nat → Int → Int} {t : Mem} {Q : Int → Mem → Prop} (ha : 0 ≤ a ∧ a < 6) (hR : RR R m a) (hk : 1 ≤ k ∧ k ≤ 40) (hw : 1 ≤ w ∧ w ≤ 80) (hd : 1 ≤ d ∧ d ≤ 30) (hx : 0 ≤ x ∧ x ≤ 4) (hM : ∃ M, RSh (t 6) M) (hE : EqR R t (28 + a.toNat)) (h12 : 0 ≤ t 5 12 0 ∧ t 5 12 0 ≤ 2147483647)
    (h : ∀ u, FrO (fun o => o = 5 ∨ o = 6 ∨ o = 28 + a.toNat) t u → EqR R u (28 + a.toNat) → dysC R k.toNat w d.toNat (t 6) (t 5) (u 6) (u 5) → Q (dyA (u 6) (u 5) x) u) : K_ce_days_60 Q a d k w x 0 t := by
  have loop : ∀ i : Int, ∀ u, 0 ≤ i → i ≤ d → FrO (fun o => o = 5 ∨ o = 6 ∨ o = 28 + a.toNat) t u → (∃ M, RSh (u 6) M) → EqR R u (28 + a.toNat) → (0 ≤ u 5 12 0 ∧ u 5 12 0 ≤ 2147483647) → (∀ S' U', dysC R k.toNat w (d - i).toNat (u 6) (u 5) S' U' → dysC R k.toNat w d.toNat (t 6) (t 5) S' U') → K_ce_days_60 Q a d k w x i u := by
    refine fun i => ind_up (P := fun i => ∀ u, 0 ≤ i → i ≤ d → FrO (fun o => o = 5 ∨ o = 6 ∨ o = 28 + a.toNat) t u → (∃ M, RSh (u 6) M) → EqR R u (28 + a.toNat) → (0 ≤ u 5 12 0 ∧ u 5 12 0 ≤ 2147483647) → (∀ S' U', dysC R k.toNat w (d - i).toNat (u 6) (u 5) S' U' → dysC R k.toNat w d.toNat (t 6) (t 5) S' U') → K_ce_days_60 Q a d k w x i u) d (fun i ih u h0 h1 hF hMu hEu hxu hC => ?_) i
    obtain ⟨M, hMu⟩ := hMu
    refine b_ce_days_60 ?_
    unfold T_ce_days_60 T_ce_days_88 T_ce_days_120 T_ce_days_128 T_ce_days_136 T_ce_days_144 T_ce_days_152
    rw [wr_id (x := d) (by omega) (by omega), wr_id (x := i) (by omega) (by omega), wr_id (x := a) (by omega) (by omega), wr_id (x := x) (by omega) (by omega)]
    refine ⟨fun c => ?_, fun c => ⟨by omega, ?_⟩⟩
    · have h := h u hF hEu (hC _ _ (by rw [show (d - i).toNat = 0 by omega]; exact ⟨rfl, fun _ _ _ => rfl⟩))
      unfold dyA at h
      refine ⟨⟨fun q => ?_, fun q => ?_, fun q => ?_, fun q => ?_, trivial⟩, fun q => ?_⟩
      · rw [if_pos q] at h
        exact h
      · rw [if_neg (by omega), if_pos q] at h
        exact h
      · rw [if_neg (by omega), if_neg (by omega), if_pos q] at h
        exact h
      · rw [if_neg (by omega), if_neg (by omega), if_neg (by omega), if_pos q] at h
        exact h
      · rw [if_neg (by omega), if_neg (by omega), if_neg (by omega), if_neg (by omega)] at h
        have hb := hMu.1.1
        have h4 := hMu.1.2.1
        exact p_sh_eighthsLeft rfl rfl (by rw [h4]; exact hb) h
    · refine p_sd_runDay (o := 5) (o1 := 28 + a.toNat) (M := M) (R := R) rfl (cls_ru ha) (by omega) (by omega) hMu hEu hR hk hw hxu (fun z U' f1 f2 f3 f4 f5 f6 f7 => ?_)
      refine ih (by omega) z (by omega) (by omega) (fun o ho => by rw [f1 o ho, hF o ho]) f3 f2 f7 (fun S' U'' hr => hC S' U'' ?_)
      rw [show (d - i).toNat = (d - (i + 1)).toNat + 1 by omega]
      exact ⟨z 6, U', z 5, f4, ⟨f5, f6⟩, hr⟩
  exact loop 0 t (by omega) (by omega) (fun _ _ => rfl) hM hE h12 (fun S' U' hr => by rw [show d - 0 = d by omega] at hr; exact hr)
theorem RS_U0 {S T U U' M : Nat → Int → Int} {D : Int} (h : RS S T U M D) (e : ∀ j, 2 ≤ j → j ≤ 6 → U' j = U j) (e2 : ∀ j, 7 ≤ j → j ≤ 12 → U' j 0 = U j 0) : RS S T U' M D := by
  obtain ⟨h1, h2, h3, h4⟩ := h
  refine ⟨h1, h2, ?_, Edn_c h4 rfl (fun _ _ _ => rfl) e⟩
  unfold Std at h3 ⊢
  rw [e2 7 (by omega) (by omega), e2 8 (by omega) (by omega), e2 9 (by omega) (by omega), e2 10 (by omega) (by omega), e2 11 (by omega) (by omega), e2 12 (by omega) (by omega)]
  exact h3
theorem p_md_daysL {v : Mem} {a d k w x D : Int} {c : Int → Int} {R S T U S' U' : Nat → Int → Int} {Q : Int → Mem → Prop} (ha : 0 ≤ a ∧ a < 6) (hk : 1 ≤ k ∧ k ≤ 40) (hw : 1 ≤ w ∧ w ≤ 80) (hd : 1 ≤ d ∧ d ≤ 30) (hRS : RS S T U (Mo v c) D) (hR : RR R (v 34) a) (hC : dysC R k.toNat w d.toNat S U S' U')
    (h : ∀ m, FrW v m → RS S' T U' (Mo m c) (D + d) → T_md_days_95 Q x m) : K_md_days_74 Q a d k w x 0 v := by
  have loop : ∀ i : Int, ∀ (m : Mem) (S1 U1 : Nat → Int → Int), 0 ≤ i → i ≤ d → FrW v m → RS S1 T U1 (Mo m c) (D + i) → dysC R k.toNat w (d - i).toNat S1 U1 S' U' → K_md_days_74 Q a d k w x i m := by
    refine fun i => ind_up (P := fun i => ∀ (m : Mem) (S1 U1 : Nat → Int → Int), 0 ≤ i → i ≤ d → FrW v m → RS S1 T U1 (Mo m c) (D + i) → dysC R k.toNat w (d - i).toNat S1 U1 S' U' → K_md_days_74 Q a d k w x i m) d (fun i ih m S1 U1 h0 h1 hF hRm hCm => ?_) i
    refine b_md_days_74 ?_
    unfold T_md_days_74
    rw [wr_id (x := d) (by omega) (by omega), wr_id (x := i) (by omega) (by omega)]
    refine ⟨fun q => ?_, fun q => ?_⟩
    · rw [show (d - i).toNat = 0 by omega] at hCm
      obtain ⟨rfl, hU⟩ := hCm
      have ei : i = d := by omega
      subst ei
      exact h m hF (RS_U0 hRm (fun j j0 j1 => hU j j0 (by omega)) (fun j j0 j1 => by rw [hU j (by omega) j1]))
    · rw [show (d - i).toNat = (d - (i + 1)).toNat + 1 by omega] at hCm
      obtain ⟨S2, U3, U4, g1, ⟨g2, g3⟩, g4⟩ := hCm
      refine p_md_goesDay ha hk hw hRm (RR_V hR hF.1) g1 (fun m2 U2 f1 f2 f3 f4 f5 => ?_)
      refine ih (by omega) m2 S2 U4 (by omega) (by omega) ⟨hF.1.tr f1.1, fun y hy => by rw [f1.2 y hy, hF.2 y hy]⟩ (RS_U0 (U := U2) (by rw [show D + (i + 1) = D + i + 1 by omega]; exact f4) (fun j j0 j1 => by rw [g3 j j0 (by omega) (by omega), f3 j j0 (by omega) (by omega)]) (fun j j0 j1 => ?_)) g4
      by_cases q11 : j = 11
      · subst q11
        rw [g2, f2]
      · rw [g3 j (by omega) j1 q11, f3 j (by omega) j1 q11]
  exact loop 0 v S U (by omega) (by omega) ⟨FrJ.rf, fun _ _ => rfl⟩ (by rw [show D + 0 = D by omega]; exact hRS) (by rw [show d - 0 = d by omega]; exact hC)
theorem smL_RSh {S M : Nat → Int → Int} (h : RSh S M) : smL (S 0) (S 4 0).toNat = smL (M 1) (M 0 0).toNat := by
  rw [h.1.2.1]
  have hb := h.1.1
  exact smL_congr (fun k hk => (h.1.2.2 k (by omega) (by omega)).1.1)
theorem g_days {s : Mem} (h : Inv s) {a d k w x : Int} (ha : I32 a) (hd : I32 d) (hk : I32 k) (hw : I32 w) (hx : I32 x) : Ag s (W_ce_days a d k w x) (W_md_days a d k w x) := by
  have wa := ha.w
  have wx := hx.w
  obtain ⟨r1, r2, r3⟩ := Inv_rul h
  have rf : ¬ ((0 ≤ a ∧ a < s 0 6 0) ∧ ((1 ≤ k ∧ k ≤ 40) ∧ (1 ≤ w ∧ w ≤ 80)) ∧ (1 ≤ d ∧ d ≤ 30) ∧ (0 ≤ x ∧ x ≤ 4)) → W_md_days a d k w x s (fun r2 v => wr (-1) = wr r2 ∧ Inv v) := fun c => by
    refine w_md_days (b_md_days_0 (p_md_isDay ha hk hw (by rw [r2]; exact r1) ?_))
    rw [r2]
    exact zt (fun c1 => p_in hd.wl (b' := 1) (by decide) (c' := 30) (by decide) (zt (fun c2 => p_in hx.wl (b' := 0) (by decide) (c' := 4) (by decide) (zf (fun c3 => absurd ⟨c1.1, c1.2, c2, c3⟩ c) (fun _ => ⟨rfl, h⟩))) (fun _ => ⟨rfl, h⟩))) (fun _ => ⟨rfl, h⟩)
  refine w_ce_days (b_ce_days_0 (p_ce_hasRule wa r1 (zt (fun c1 => p_ce_isDay hk.w hw.w (zt (fun c2 => p_within hd.w (b' := 1) (by decide) (c' := 30) (by decide) (zt (fun c3 => p_within wx (b' := 0) (by decide) (c' := 4) (by decide) (zf (fun c4 => ?_) (fun c4 => rf (fun z => c4 z.2.2.2)))) (fun c3 => rf (fun z => c3 z.2.2.1)))) (fun c2 => rf (fun z => c2 z.2.1)))) (fun c1 => rf (fun z => c1 z.1)))))
  unfold T_ce_days_39
  have hRR := r3 a c1.1 c1.2
  refine p_sd_copyFrom rfl rfl rfl rfl rfl rfl (by omega) (by omega) (fun t F1 _ e1 e2 e3 => p_sd_clearCounts (fun t2 f1 f2 f7 f8 f9 f10 => ?_))
  have hR1 : RS (t 6) (t 7) (t 5) (MM s) 9999 := RS_x e2 e3 e1 EqN.rf h.1
  have t6 : t2 6 = t 6 := f1 6 (by omega)
  have t234 : t2 34 = s 34 := (f1 34 (by omega)).trans (F1 34 (by omega))
  have tru : t2 (28 + a.toNat) = s (28 + a.toNat) := (f1 _ (by omega)).trans (F1 _ (by omega))
  have h12 := hR1.2.2.1.2.2.2.2.2
  have x12 := f2 12 (by omega)
  refine p_ce_daysL (R := s (28 + a.toNat)) (by omega) hRR c2.1 c2.2 c3 c4 ⟨MM s, by rw [t6]; exact hR1.1⟩ (fun j _ => by rw [tru]) (by rw [x12]; omega) (fun u hF hE hC => ?_)
  have u34 : u 34 = s 34 := (hF 34 (by omega)).trans t234
  have hM0 : MM u = MM s := by funext y; show u 34 _ = s 34 _; rw [u34]
  refine w_md_days (b_md_days_0 (p_md_isDay ha hk hw (by rw [u34, r2]; exact r1) ?_))
  rw [u34, r2]
  refine zt (fun _ => p_in hd.wl (b' := 1) (by decide) (c' := 30) (by decide) (zt (fun _ => p_in hx.wl (b' := 0) (by decide) (c' := 4) (by decide) (zf (fun _ => ?_) (fun z => absurd c4 z))) (fun z => absurd c3 z))) (fun z => absurd ⟨c1, c2⟩ z)
  unfold T_md_days_38
  refine p_md_lay (ak rfl rfl) (ak rfl rfl) (by decide) (by decide) (fun v1 v1F v1v => p_md_lay (ak rfl rfl) (ak rfl rfl) (by decide) (by decide) (fun v2 v2F v2v => p_md_lay (ak rfl rfl) (ak rfl rfl) (by decide) (by decide) (fun v3 v3F v3v => ?_)))
  have v3j : ∀ j, ¬ (j = 54 ∨ j = 55 ∨ j = 56) → v3 34 j = s 34 j := fun j hj => by rw [v3F.2 j (by omega), v2F.2 j (by omega), v1F.2 j (by omega), u34]
  have v3o : ∀ o, ¬ o = 34 → v3 o = u o := fun o ho => by rw [v3F.1 o ho, v2F.1 o ho, v1F.1 o ho]
  have k54 : ∀ y : Int, 0 ≤ y → y < 18 → v3 34 54 y = s 34 2 y := fun y y0 y1 => by rw [v3F.2 54 (by omega), v2F.2 54 (by omega), v1v y y0 y1, u34]
  have k55 : ∀ y : Int, 0 ≤ y → y < 12 → v3 34 55 y = s 34 3 y := fun y y0 y1 => by rw [v3F.2 55 (by omega), v2v y y0 y1, v1F.2 3 (by omega), u34]
  have k56 : ∀ y : Int, 0 ≤ y → y < 16 → v3 34 56 y = s 34 8 y := fun y y0 y1 => by rw [v3v y y0 y1, v2F.2 8 (by omega), v1F.2 8 (by omega), u34]
  have eM3 : ∀ b, b < 20 → MM v3 b = MM s b := fun b hb => v3j _ (by unfold mfld; split <;> omega)
  have hRS : RS (t2 6) (t 7) (t2 5) (Mo v3 (fun y => s 34 2 y)) 9999 := by
    obtain ⟨q1, q2, ⟨z1, z2, z3, z4, z5, z6⟩, q4⟩ := hR1
    refine ⟨RSh_Mo.mpr (by rw [t6]; exact RSh_u q1 (fun y _ _ => by rw [eM3 0 (by omega)]) (fun b _ _ => eM3 b (by omega))), RTo_u q2 (fun y y0 y1 => by rw [Mo_k (by omega), v3j 2 (by omega)]; rfl) (fun b b0 b1 => by rw [Mo_a (by omega), eM3 b (by omega)]), ⟨?_, ?_, ?_, ?_, ?_, ?_⟩, Edn_c q4 (by rw [Mo_k (by omega), v3j 2 (by omega)]; rfl) (fun b b0 b1 => by rw [Mo_a (by omega), eM3 b (by omega)]) (fun j j0 j1 => f2 j (by omega))⟩
    · rw [Mo_c (by omega), v3j 2 (by omega), f7]; omega
    · rw [Mo_c (by omega), v3j 2 (by omega), f8]; omega
    · rw [Mo_c (by omega), v3j 2 (by omega), f9]; omega
    · rw [Mo_c (by omega), v3j 2 (by omega), f10]; omega
    · rw [Mo_k (by omega), v3j 2 (by omega), f2 11 (by omega)]; exact z5
    · rw [Mo_k (by omega), v3j 2 (by omega), f2 12 (by omega)]; exact z6
  refine p_md_daysL (by omega) c2.1 c2.2 c3 hRS (R := s (28 + a.toNat)) (RR_R (fun _ _ => rfl) (fun j j0 j1 => v3j j (by omega)) hRR) hC (fun m fm hm => ?_)
  have m54 : m 34 54 = v3 34 54 := fm.1.2 54 (by omega)
  have fin : ∀ y, wr (dyA (u 6) (u 5) x) = wr y → T_md_days_129 (fun r2 v => wr (dyA (u 6) (u 5) x) = wr r2 ∧ Inv v) y m := fun y hy => by
    unfold T_md_days_129
    refine p_md_lay (ak rfl rfl) (ak rfl rfl) (by decide) (by decide) (fun n1 n1F n1v => p_md_lay (ak rfl rfl) (ak rfl rfl) (by decide) (by decide) (fun n2 n2F n2v => p_md_lay (ak rfl rfl) (ak rfl rfl) (by decide) (by decide) (fun n3 n3F n3v => ⟨hy, ?_⟩)))
    have no : ∀ o, ¬ o = 34 → n3 o = u o := fun o ho => by rw [n3F.1 o ho, n2F.1 o ho, n1F.1 o ho, fm.1.1 o ho, v3o o ho]
    have nj : ∀ j, ¬ (j = 2 ∨ j = 3 ∨ j = 8 ∨ (52 ≤ j ∧ j ≤ 56)) → n3 34 j = s 34 j := fun j hj => by rw [n3F.2 j (by omega), n2F.2 j (by omega), n1F.2 j (by omega), fm.1.2 j (by omega), v3j j (by omega)]
    have uo : ∀ o, ¬ (o = 5 ∨ o = 6 ∨ o = 7 ∨ o = 28 + a.toNat) → u o = s o := fun o ho => by rw [hF o (by omega), f1 o (by omega), F1 o (by omega)]
    refine Inv_run h (fun j _ => by rw [no 0 (by omega), uo 0 (by omega)]) ?_ (fun o ho => by rw [no o (by omega), uo o (by omega)]) (fun o j o0 o1 hj => ?_) (fun j hk hj => by unfold kpJ at hk; exact nj j (by omega)) ?_
    · intro i i0 i1
      rw [no 0 (by omega), uo 0 (by omega), nj 1 (by omega)]
      exact h.2.2.1 i i0 i1
    · rw [no o (by omega)]
      by_cases e : o = 28 + a.toNat
      · subst e
        exact hE j hj
      · rw [uo o (by omega)]
    · unfold RSm
      rw [no 3 (by omega), no 4 (by omega), no 2 (by omega), uo 3 (by omega), uo 4 (by omega), uo 2 (by omega)]
      refine RS_x EqN.rf EqN.rf EqN.rf (fun b y y0 y1 => ?_) h.1
      have y1 : y < (mdN b : Int) := y1
      show n3 34 (mfld b) y = s 34 (mfld b) y
      by_cases b0 : b = 0
      · subst b0
        show n3 34 2 y = s 34 2 y
        have y1 : y < 18 := y1
        rw [n3F.2 2 (by omega), n2F.2 2 (by omega), n1v y y0 y1, m54, k54 y y0 y1]
      · by_cases b1 : b = 1
        · subst b1
          show n3 34 3 y = s 34 3 y
          have y1 : y < 12 := y1
          rw [n3F.2 3 (by omega), n2v y y0 y1, n1F.2 55 (by omega), fm.1.2 55 (by omega), k55 y y0 y1]
        · by_cases b6 : b = 6
          · subst b6
            show n3 34 8 y = s 34 8 y
            have y1 : y < 16 := y1
            rw [n3v y y0 y1, n2F.2 56 (by omega), n1F.2 56 (by omega), fm.1.2 56 (by omega), k56 y y0 y1]
          · have hb : b < 20 := by
              unfold mdN at y1
              (repeat' split at y1) <;> omega
            rw [nj _ (by unfold mfld; split <;> omega)]
  obtain ⟨z1, z2, z3, z4, -, -⟩ := hm.2.2.1
  rw [Mo_c (by omega)] at z1 z2 z3 z4
  unfold T_md_days_95 T_md_days_108
  rw [wx]
  refine ⟨fun q => ?_, fun q => ?_⟩
  · rw [wr_id (x := 8 + x) (by omega) (by omega), m54, k54 _ (by omega) (by omega)]
    refine ⟨by omega, by omega, fin _ ?_⟩
    unfold dyA
    rcases (show x = 0 ∨ x = 1 ∨ x = 2 ∨ x = 3 by omega) with e | e | e | e <;> subst e
    · exact congrArg wr z1
    · exact congrArg wr z2
    · exact congrArg wr z3
    · exact congrArg wr z4
  · have hS := RSh_Mo.mp hm.1
    have hb : 0 ≤ m 34 2 0 ∧ m 34 2 0 ≤ 12 := hS.1.1
    refine p_md_leftInAll hb (fin _ ?_)
    unfold dyA
    rw [if_neg (by omega), if_neg (by omega), if_neg (by omega), if_neg (by omega), smL_RSh hS]
    rfl
