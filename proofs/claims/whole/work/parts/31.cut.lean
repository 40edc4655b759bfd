/-! ===== CUT and TEAR ===== -/
theorem Inv_std {s t : Mem} (h : Inv s) (ho : ∀ o, ¬ (o = 2 ∨ o = 3 ∨ o = 34) → t o = s o) (hj : ∀ j, kpJ j → ¬ (j = 2 ∨ j = 3 ∨ j = 8 ∨ (22 ≤ j ∧ j ≤ 25)) → t 34 j = s 34 j) (e0 : ∀ k, k = 15 ∨ k = 16 ∨ k = 17 → t 34 2 k = s 34 2 k) (hS : RSh (t 3) (MM t)) (hU : Std (t 2) (MM t) 9999) (hE : Edn (t 2) (MM t)) : Inv t := by
  refine Inv_main h (fun o q => ho o (by omega)) (fun j hj1 q => hj j hj1 (by omega)) ?_
  obtain ⟨-, ⟨b2, b3, b4, b5⟩, -, -⟩ := h.1
  have em : ∀ a, 14 ≤ a → a < 20 → MM t a = MM s a := fun a h1 h2 => hj _ (kpJ_mfld h2) (by unfold mfld; split <;> omega)
  refine ⟨hS, ?_, hU, hE⟩
  rw [ho 4 (by omega)]
  exact ⟨Kno_c b2 (e0 15 (by omega)) (em 14 (by omega) (by omega)) (fun _ _ => rfl), Wei_c b3 (em 15 (by omega) (by omega)) rfl, Lev_c b4 (e0 16 (by omega)) (em 16 (by omega) (by omega)) (em 17 (by omega) (by omega)) (fun _ _ _ => rfl), Boo_c b5 (e0 17 (by omega)) (em 18 (by omega) (by omega)) (em 19 (by omega) (by omega)) (fun _ _ _ => rfl)⟩
theorem RSh_u {S M M' : Nat → Int → Int} (h : RSh S M) (e0 : ∀ k, 0 ≤ k → k < 8 → M' 0 k = M 0 k) (eM : ∀ a, 1 ≤ a → a ≤ 9 → M' a = M a) : RSh S M' := RSh_c h e0 eM (fun _ _ => rfl)
/-- what a CUT leaves, on both sides -/
theorem cut_RSh {s u t v : Mem} {b n : Int} {S : Nat → Int → Int} (h : RSh S (MM s)) (e : u 34 = s 34) {S' : Nat → Int → Int} (hc : ShrC S S' b n) (hF : FrJ 34 (fun j => j = 3 ∨ j = 8) u t) (hS : ShrM (MM u) (MM t) b n) (hb : 0 ≤ b ∧ b < MM s 0 0) (hn : 0 ≤ n ∧ n ≤ MM s 1 b) {x y : Int} (hv : v = updM (updM t 34 2 8 x) 34 2 9 y) : RSh S' (MM v) := by
  have eM : MM u = MM s := by funext a; show u 34 _ = s 34 _; rw [e]
  rw [eM] at hS
  obtain ⟨a1, a2, a3⟩ := updM_f hv
  have e3 : v 34 2 = uA (uA (t 34 2) 8 x) 9 y := by rw [a3, updM_s]
  refine RSh_u (RSh_shr h hc hS hb hn) (fun k k0 k1 => ?_) (fun a h1 h2 => ?_)
  · show v 34 2 k = t 34 2 k
    rw [e3, uA_n _ (by omega), uA_n _ (by omega)]
  · show v 34 (mfld a) = t 34 (mfld a)
    rw [a2 _ (by unfold mfld; split <;> omega), updM_j _ (by unfold mfld; split <;> omega)]
theorem cut_Std {s u t v : Mem} {U U' : Nat → Int → Int} {D x y : Int} (h : Std U (MM s) D) (e : u 34 = s 34) (h7 : U' 7 0 = U 7 0 + x) (h8 : U' 8 0 = U 8 0 + y) (hU : ∀ j, 9 ≤ j → j ≤ 12 → U' j = U j) (hF : FrJ 34 (fun j => j = 3 ∨ j = 8) u t) (hv : v = updM (updM t 34 2 8 (t 34 2 8 + x)) 34 2 9 (t 34 2 9 + y)) : Std U' (MM v) D := by
  obtain ⟨a1, a2, a3⟩ := updM_f hv
  have e3 : v 34 2 = uA (uA (s 34 2) 8 (s 34 2 8 + x)) 9 (s 34 2 9 + y) := by rw [a3, updM_s, hF.2 2 (by omega), e]
  obtain ⟨c1, c2, c3, c4, c5, c6⟩ := h
  have e4 : ∀ k, ¬ k = 8 → ¬ k = 9 → MM v 0 k = MM s 0 k := fun k k8 k9 => by
    show v 34 2 k = s 34 2 k
    rw [e3, uA_n _ k9, uA_n _ k8]
  refine ⟨?_, ?_, by rw [hU 9 (by omega) (by omega), e4 10 (by omega) (by omega)]; exact c3, by rw [hU 10 (by omega) (by omega), e4 11 (by omega) (by omega)]; exact c4, by rw [hU 11 (by omega) (by omega), e4 13 (by omega) (by omega)]; exact c5, by rw [hU 12 (by omega) (by omega), e4 14 (by omega) (by omega)]; exact c6⟩
  · show U' 7 0 = v 34 2 8
    rw [h7, e3, uA_n _ (by omega), uA_s, c1]
    rfl
  · show U' 8 0 = v 34 2 9
    rw [h8, e3, uA_s, c2]
    rfl
theorem g_carry {s : Mem} (h : Inv s) {a b m k : Int} (ha : I32 a) (hb : I32 b) (hm : m = s 34 2 k) (hm2 : 0 ≤ s 34 2 k ∧ s 34 2 k ≤ 8) (wm : Mem → (Int → Mem → Prop) → Prop) (hw : ∀ u Q, u 34 = s 34 → W_md_cutsBy a b (s 34 2 k) u Q → wm u Q) : Ag s (W_ce_carryOff a b m) wm := by
  have wa := ha.w
  have wb := hb.w
  subst hm
  obtain ⟨b1, b2, b3⟩ := Inv_bal h
  have rf : ¬ ((0 ≤ a ∧ a < s 34 2 0) ∧ (1 ≤ b ∧ b ≤ 480)) → W_ce_refuse 0 s (fun r u => wm u (fun r2 v => wr r = wr r2 ∧ Inv v)) := fun c => by
    have e : updM s 0 7 0 (s 0 7 0 + 1) 34 = s 34 := updM_o _ (by omega)
    refine p_ce_refuse (by omega) (hw _ _ e (w_md_cutsBy (b_md_cutsBy_0 ?_)))
    refine p_md_isBale ha (by rw [e]; exact b1) ?_
    rw [e]
    exact zt (fun c1 => p_in hb.wl (b' := 1) (by decide) (c' := 480) (by decide) (zf (fun c2 => absurd ⟨c1, c2⟩ c) (fun _ => p_md_refuses (by omega) (both_refuse h (by omega))))) (fun _ => p_md_refuses (by omega) (both_refuse h (by omega)))
  refine w_ce_carryOff (b_ce_carryOff_0 (p_sh_has rfl wa b2 b1 (zt (fun c1 => p_within wb (b' := 1) (by decide) (c' := 480) (by decide) (zf (fun c2 => ?_) (fun c2 => rf (fun z => c2 z.2)))) (fun c1 => rf (fun z => c1 z.1)))))
  obtain ⟨e1, -⟩ := b3 a c1.1 c1.2
  unfold T_ce_carryOff_31 T_ce_carryOff_53
  rw [wa, wb, e1.1, wr_id (x := s 34 3 a) (by omega) (by omega)]
  refine ⟨by omega, fun c3 => ?_, fun c3 => p_ce_refuse (by omega) ?_⟩
  · refine p_sd_sellFrom (o := 2) (M := MM s) rfl h.1.1 c1 ⟨by omega, c3⟩ (by omega) (fun u hF hU h7 h8 hC => ?_)
    have eu : u 34 = s 34 := hF 34 (by omega)
    refine hw _ _ eu (w_md_cutsBy (b_md_cutsBy_0 (p_md_isBale ha (by rw [eu]; exact b1) ?_)))
    rw [eu]
    refine zt (fun _ => p_in hb.wl (b' := 1) (by decide) (c' := 480) (by decide) (zf (fun _ => ?_) (fun z => absurd c2 z))) (fun z => absurd c1 z)
    unfold T_md_cutsBy_26 T_md_cutsBy_42
    rw [wa, wb, eu, wr_id (x := s 34 3 a) (by omega) (by omega)]
    refine ⟨by omega, br_t c3 ?_⟩
    have eM : MM u = MM s := by funext x; show u 34 _ = s 34 _; rw [eu]
    obtain ⟨v1, v2⟩ := RSh_mvals h.1.1
    refine p_md_flawsIn (by rw [eu]; exact v1) wa (by omega) (by rw [eu]; exact v2) ?_
    refine p_md_cuts (S := s 3) (by rw [eM]; exact h.1.1) (by rw [eM]; exact c1) (by rw [eM]; exact ⟨by omega, c3⟩) (by omega) (fun t v hFt hSt hv => ?_)
    rw [eM] at hv hSt
    refine ⟨?_, ?_⟩
    · rw [eu]
      exact congrArg (fun l => wr ((cnL a b l : Nat) : Int)) (Inv_flw h).2.2.1
    · obtain ⟨a1, a2, a3⟩ := updM_f hv
      have ht : 0 ≤ tkn (MM s 1 a) b (s 34 2 k) ∧ tkn (MM s 1 a) b (s 34 2 k) ≤ MM s 1 a := by
        have : MM s 1 a = s 34 3 a := rfl
        unfold tkn
        split <;> omega
      have q3 : v 3 = u 3 := by rw [a1 3 (by omega), updM_o _ (by omega), hFt.1 3 (by omega)]
      have q2 : v 2 = u 2 := by rw [a1 2 (by omega), updM_o _ (by omega), hFt.1 2 (by omega)]
      have e2 : ∀ x, ¬ x = 8 → ¬ x = 9 → v 34 2 x = s 34 2 x := fun x k8 k9 => by
        rw [a3, uA_n _ k9, updM_s, uA_n _ k8, hFt.2 2 (by omega), eu]
      have ej : ∀ j, ¬ (j = 2 ∨ j = 3 ∨ j = 8) → v 34 j = s 34 j := fun j hj => by
        rw [a2 j (by omega), updM_j _ (by omega), hFt.2 j (by omega), eu]
      refine Inv_std h (fun o ho => ?_) (fun j _ hj => ej j (by omega)) (fun x hx => e2 x (by omega) (by omega)) ?_ ?_ ?_
      · rw [a1 o (by omega), updM_o _ (by omega), hFt.1 o (by omega), hF o (by omega)]
      · rw [q3]
        exact cut_RSh h.1.1 eu hC hFt (by rw [eM]; exact hSt) c1 ht hv
      · rw [q2]
        exact cut_Std h.1.2.2.1 eu h7 h8 (fun j j0 j1 => hU j (by omega)) hFt hv
      · rw [q2]
        exact Edn_c h.1.2.2.2 (e2 12 (by omega) (by omega)) (fun x h1 h2 => ej _ (by unfold mfld; split <;> omega)) (fun j j0 j1 => hU j (by omega))
  · have e : updM s 0 7 1 (s 0 7 1 + 1) 34 = s 34 := updM_o _ (by omega)
    refine hw _ _ e (w_md_cutsBy (b_md_cutsBy_0 (p_md_isBale ha (by rw [e]; exact b1) ?_)))
    rw [e]
    refine zt (fun _ => p_in hb.wl (b' := 1) (by decide) (c' := 480) (by decide) (zf (fun _ => ?_) (fun z => absurd c2 z))) (fun z => absurd c1 z)
    unfold T_md_cutsBy_26
    rw [wa, wb, e, wr_id (x := s 34 3 a) (by omega) (by omega)]
    exact ⟨by omega, br_f c3 (p_md_refuses (by omega) (both_refuse h (by omega)))⟩
theorem g_cut {s : Mem} (h : Inv s) {a b : Int} (ha : I32 a) (hb : I32 b) : Ag s (W_ce_cut a b) (W_md_cut a b) := by
  obtain ⟨t1, t2, -⟩ := Inv_sca h
  exact w_ce_cut (b_ce_cut_0 (g_carry (k := 2) h ha hb t1.1 t1.2 _ (fun u Q e q => w_md_cut (b_md_cut_0 (by unfold T_md_cut_0; rw [e]; exact q)))))
theorem g_tear {s : Mem} (h : Inv s) {a b : Int} (ha : I32 a) (hb : I32 b) : Ag s (W_ce_tear a b) (W_md_tear a b) := by
  obtain ⟨t1, t2, -⟩ := Inv_sca h
  exact w_ce_tear (b_ce_tear_0 (g_carry (k := 3) h ha hb t2.1 t2.2 _ (fun u Q e q => w_md_tear (b_md_tear_0 (by unfold T_md_tear_0; rw [e]; exact q)))))
