theorem Bal_c {S S' M M' : Nat → Int → Int} (h : Bal S M) (e0 : M' 0 0 = M 0 0) (eM : ∀ a, 1 ≤ a → a ≤ 4 → M' a = M a) (eS : ∀ j, j < 5 → S' j = S j) : Bal S' M' := by
  unfold Bal at h ⊢
  rw [e0, eM 1 (by omega) (by omega), eM 2 (by omega) (by omega), eM 3 (by omega) (by omega), eM 4 (by omega) (by omega), eS 0 (by omega), eS 1 (by omega), eS 2 (by omega), eS 3 (by omega), eS 4 (by omega)]
  exact h
theorem Flw_c {S S' M M' : Nat → Int → Int} (h : Flw S M) (e0 : M' 0 0 = M 0 0) (e1 : M' 0 1 = M 0 1) (eM : ∀ a, a = 1 ∨ a = 5 ∨ a = 6 → M' a = M a) (eS : ∀ j, 5 ≤ j → j ≤ 7 → S' j = S j) : Flw S' M' := by
  unfold Flw at h ⊢
  rw [e0, e1, eM 1 (by omega), eM 5 (by omega), eM 6 (by omega), eS 5 (by omega) (by omega), eS 6 (by omega) (by omega), eS 7 (by omega) (by omega)]
  exact h
theorem Sca_c {S S' M M' : Nat → Int → Int} (h : Sca S M) (eM : ∀ k, k = 2 ∨ k = 3 ∨ k = 4 ∨ k = 6 ∨ k = 7 → M' 0 k = M 0 k) (eS : ∀ j, j = 8 ∨ j = 9 ∨ j = 10 ∨ j = 15 ∨ j = 16 → S' j = S j) : Sca S' M' := by
  unfold Sca at h ⊢
  rw [eM 2 (by omega), eM 3 (by omega), eM 4 (by omega), eM 6 (by omega), eM 7 (by omega), eS 8 (by omega), eS 9 (by omega), eS 10 (by omega), eS 15 (by omega), eS 16 (by omega)]
  exact h
theorem Frm_c {S S' M M' : Nat → Int → Int} (h : Frm S M) (e5 : M' 0 5 = M 0 5) (eM : ∀ a, 7 ≤ a → a ≤ 9 → M' a = M a) (eS : ∀ j, 11 ≤ j → j ≤ 14 → S' j = S j) : Frm S' M' := by
  unfold Frm at h ⊢
  rw [e5, eM 7 (by omega) (by omega), eM 8 (by omega) (by omega), eM 9 (by omega) (by omega), eS 11 (by omega) (by omega), eS 12 (by omega) (by omega), eS 13 (by omega) (by omega), eS 14 (by omega) (by omega)]
  exact h
theorem RSh_c {S S' M M' : Nat → Int → Int} (h : RSh S M) (e0 : ∀ k, 0 ≤ k → k < 8 → M' 0 k = M 0 k) (eM : ∀ a, 1 ≤ a → a ≤ 9 → M' a = M a) (eS : ∀ j, j < 17 → S' j = S j) : RSh S' M' :=
  ⟨Bal_c h.1 (e0 0 (by omega) (by omega)) (fun a _ _ => eM a (by omega) (by omega)) (fun j _ => eS j (by omega)), Flw_c h.2.1 (e0 0 (by omega) (by omega)) (e0 1 (by omega) (by omega)) (fun a _ => eM a (by omega) (by omega)) (fun j _ _ => eS j (by omega)), Sca_c h.2.2.1 (fun k _ => e0 k (by omega) (by omega)) (fun j _ => eS j (by omega)), Frm_c h.2.2.2 (e0 5 (by omega) (by omega)) (fun a _ _ => eM a (by omega) (by omega)) (fun j _ _ => eS j (by omega))⟩
theorem Std_c {U U' M M' : Nat → Int → Int} {D : Int} (h : Std U M D) (e0 : ∀ k, k = 8 ∨ k = 9 ∨ k = 10 ∨ k = 11 ∨ k = 13 ∨ k = 14 → M' 0 k = M 0 k) (eU : ∀ j, 7 ≤ j → j ≤ 12 → U' j = U j) : Std U' M' D := by
  unfold Std at h ⊢
  rw [e0 8 (by omega), e0 9 (by omega), e0 10 (by omega), e0 11 (by omega), e0 13 (by omega), e0 14 (by omega), eU 7 (by omega) (by omega), eU 8 (by omega) (by omega), eU 9 (by omega) (by omega), eU 10 (by omega) (by omega), eU 11 (by omega) (by omega), eU 12 (by omega) (by omega)]
  exact h
theorem Edn_c {U U' M M' : Nat → Int → Int} (h : Edn U M) (e0 : M' 0 12 = M 0 12) (eM : ∀ a, 10 ≤ a → a ≤ 13 → M' a = M a) (eU : ∀ j, 2 ≤ j → j ≤ 6 → U' j = U j) : Edn U' M' := by
  unfold Edn at h ⊢
  rw [e0, eM 10 (by omega) (by omega), eM 11 (by omega) (by omega), eM 12 (by omega) (by omega), eM 13 (by omega) (by omega), eU 2 (by omega) (by omega), eU 3 (by omega) (by omega), eU 4 (by omega) (by omega), eU 5 (by omega) (by omega), eU 6 (by omega) (by omega)]
  exact h
theorem Kno_c {T T' M M' : Nat → Int → Int} (h : Kno T M) (e0 : M' 0 15 = M 0 15) (eM : M' 14 = M 14) (eT : ∀ j, j < 2 → T' j = T j) : Kno T' M' := by
  unfold Kno at h ⊢
  rw [e0, eM, eT 0 (by omega), eT 1 (by omega)]
  exact h
theorem Wei_c {T T' M M' : Nat → Int → Int} (h : Wei T M) (eM : M' 15 = M 15) (eT : T' 2 = T 2) : Wei T' M' := by
  unfold Wei at h ⊢
  rw [eM, eT]
  exact h
theorem Lev_c {T T' M M' : Nat → Int → Int} (h : Lev T M) (e0 : M' 0 16 = M 0 16) (eM : M' 16 = M 16) (eM2 : M' 17 = M 17) (eT : ∀ j, 3 ≤ j → j ≤ 5 → T' j = T j) : Lev T' M' := by
  unfold Lev at h ⊢
  rw [e0, eM, eM2, eT 3 (by omega) (by omega), eT 4 (by omega) (by omega), eT 5 (by omega) (by omega)]
  exact h
theorem Boo_c {T T' M M' : Nat → Int → Int} (h : Boo T M) (e0 : M' 0 17 = M 0 17) (eM : M' 18 = M 18) (eM2 : M' 19 = M 19) (eT : ∀ j, 6 ≤ j → j ≤ 7 → T' j = T j) : Boo T' M' := by
  unfold Boo at h ⊢
  rw [e0, eM, eM2, eT 6 (by omega) (by omega), eT 7 (by omega) (by omega)]
  exact h
/-- all but the main Stand and the reference's main rows stay -/
theorem Inv_main {s t : Mem} (h : Inv s) (h2 : ∀ o, ¬ (o = 2 ∨ o = 3 ∨ o = 4 ∨ o = 34) → t o = s o) (hm : ∀ j, kpJ j → ¬ ((2 ≤ j ∧ j ≤ 11) ∨ (22 ≤ j ∧ j ≤ 31)) → t 34 j = s 34 j) (hR : RSm t) : Inv t := by
  obtain ⟨a1, a2, a3, a4, a5, a6⟩ := h
  refine ⟨hR, ?_, ?_, ?_, ?_, by rw [hm 41 (by unfold kpJ; omega) (by omega)]; exact a6⟩
  · unfold Tap at a2 ⊢
    rw [h2 1 (by omega), hm 32 (by unfold kpJ; omega) (by omega), hm 43 (by unfold kpJ; omega) (by omega)]
    exact a2
  · unfold Sts at a3 ⊢
    rw [h2 0 (by omega), hm 1 (by unfold kpJ; omega) (by omega)]
    exact a3
  · intro k k0 k1
    obtain ⟨b1, b2⟩ := a4 k k0 k1
    have e : MI t k = MI s k := by
      funext a i
      show t 34 67 _ = s 34 67 _
      rw [hm 67 (by unfold kpJ; omega) (by omega)]
    rw [h2 0 (by omega), hm 68 (by unfold kpJ; omega) (by omega), h2 (8 + 3 * k.toNat + 1) (by omega), h2 (8 + 3 * k.toNat + 2) (by omega), h2 (8 + 3 * k.toNat) (by omega), e]
    exact ⟨b1, b2⟩
  · obtain ⟨b1, b2, b3⟩ := a5
    refine ⟨by rw [h2 0 (by omega)]; exact b1, by rw [h2 0 (by omega), hm 36 (by unfold kpJ; omega) (by omega)]; exact b2, fun r r0 r1 => ?_⟩
    rw [h2 0 (by omega)] at r1
    exact RR_R (fun j hj => by rw [h2 _ (by omega)]) (fun j j0 j1 => hm j (by unfold kpJ; omega) (by omega)) (b3 r r0 r1)
def I32 (a : Int) : Prop := -2147483648 ≤ a ∧ a < 2147483648
theorem I32.w {a : Int} (h : I32 a) : wr a = a := wr_id h.1 h.2
theorem wLs {a : Int} (h : -2147483648 ≤ a ∧ a < 2147483648) : wL a = a := wL_id (by omega) (by omega)
/-- a refused call, on both sides -/
theorem Inv_sts {s t : Mem} {i : Int} (h : Inv s) (hi : 0 ≤ i ∧ i < 3) (v w : Int) (hvw : v = w) (ht : t = updM (updM s 0 7 i v) 34 1 i w) : Inv t := by
  subst ht
  obtain ⟨a1, a2, a3, a4, a5, a6⟩ := h
  have eo : ∀ o, ¬ o = 0 → ¬ o = 34 → updM (updM s 0 7 i v) 34 1 i w o = s o := fun o q1 q2 => by rw [updM_o _ q2, updM_o _ q1]
  have e0 : ∀ j, ¬ j = 7 → updM (updM s 0 7 i v) 34 1 i w 0 j = s 0 j := fun j q => by rw [updM_o _ (by omega), updM_j _ q]
  have em : ∀ j, ¬ j = 1 → updM (updM s 0 7 i v) 34 1 i w 34 j = s 34 j := fun j q => by rw [updM_j _ q, updM_o _ (by omega)]
  refine ⟨?_, ?_, ?_, ?_, ?_, by rw [em 41 (by omega)]; exact a6⟩
  · unfold RSm at a1 ⊢
    rw [eo 3 (by omega) (by omega), eo 4 (by omega) (by omega), eo 2 (by omega) (by omega)]
    exact RS_M (fun a ha => em _ (by unfold mfld; split <;> omega)) a1
  · unfold Tap at a2 ⊢
    rw [eo 1 (by omega) (by omega), em 32 (by omega), em 43 (by omega)]
    exact a2
  · intro k k0 k1
    rw [updM_o _ (by omega), updM_s, updM_s, updM_o _ (by omega)]
    by_cases q : k = i
    · rw [q, uA_s, uA_s, hvw]
    · rw [uA_n _ q, uA_n _ q]
      exact a3 k k0 k1
  · intro k k0 k1
    obtain ⟨b1, b2⟩ := a4 k k0 k1
    have e : MI (updM (updM s 0 7 i v) 34 1 i w) k = MI s k := by
      funext a i'
      show (updM (updM s 0 7 i v) 34 1 i w) 34 67 _ = s 34 67 _
      rw [em 67 (by omega)]
    rw [e0 4 (by omega), em 68 (by omega), eo (8 + 3 * k.toNat + 1) (by omega) (by omega), eo (8 + 3 * k.toNat + 2) (by omega) (by omega), eo (8 + 3 * k.toNat) (by omega) (by omega), e]
    exact ⟨b1, b2⟩
  · obtain ⟨b1, b2, b3⟩ := a5
    refine ⟨by rw [e0 6 (by omega)]; exact b1, by rw [e0 6 (by omega), em 36 (by omega)]; exact b2, fun r r0 r1 => ?_⟩
    rw [e0 6 (by omega)] at r1
    exact RR_R (fun j hj => by rw [eo _ (by omega) (by omega)]) (fun j j0 j1 => em j (by omega)) (b3 r r0 r1)
theorem p_ce_refuse {i : Int} {s : Mem} {Q : Int → Mem → Prop} (hi : 0 ≤ i ∧ i < 3) (h : Q (-2) (updM s 0 7 i (s 0 7 i + 1))) : W_ce_refuse i s Q := by
  refine w_ce_refuse (b_ce_refuse_0 ?_)
  unfold T_ce_refuse_0
  rw [wr_id (x := i) (by omega) (by omega)]
  exact ⟨hi, hi, fun _ e => by rw [e]; exact h⟩
theorem p_md_refuses {i : Int} {s : Mem} {Q : Int → Mem → Prop} (hi : 0 ≤ i ∧ i < 3) (h : Q (-2) (updM s 34 1 i (s 34 1 i + 1))) : W_md_refuses i s Q := by
  refine w_md_refuses (b_md_refuses_0 ?_)
  unfold T_md_refuses_0
  rw [wr_id (x := i) (by omega) (by omega)]
  exact ⟨hi, hi, fun _ e => by rw [e]; exact h⟩
/-- what the law asks of a call: the same answers, and all hangs together as before -/
def Ag (s : Mem) (wc wm : Mem → (Int → Mem → Prop) → Prop) : Prop := wc s (fun r u => wm u (fun r2 v => wr r = wr r2 ∧ Inv v))
/-- both refuse for the same reason -/
theorem both_refuse {i : Int} {s : Mem} (h : Inv s) (hi : 0 ≤ i ∧ i < 3) : wr (-2) = wr (-2) ∧ Inv (updM (updM s 0 7 i (s 0 7 i + 1)) 34 1 i (updM s 0 7 i (s 0 7 i + 1) 34 1 i + 1)) :=
  ⟨rfl, Inv_sts h hi _ _ (by rw [updM_o _ (by omega), h.2.2.1 i hi.1 hi.2]) rfl⟩
theorem p_within {a b c a' b' c' : Int} {s : Mem} {Q : Int → Mem → Prop} (ea : wr a = a') (eb : wr b = b') (ec : wr c = c') (h : Q (b2 (b' ≤ a' ∧ a' ≤ c')) s) : W_ce_within a b c s Q := by
  subst ea eb ec
  exact p_ce_within h
theorem p_in {a b c a' b' c' : Int} {s : Mem} {Q : Int → Mem → Prop} (ea : wL a = a') (eb : wL b = b') (ec : wL c = c') (h : Q (b2 (b' ≤ a' ∧ a' ≤ c')) s) : W_md_in a b c s Q := by
  subst ea eb ec
  exact p_md_in h
theorem zt {p : Prop} [Decidable p] {A B : Prop} (h1 : p → B) (h0 : ¬ p → A) : (b2 p = 0 ∨ b2 p = 1) → (wr (b2 p) = 0 → A) ∧ (¬ wr (b2 p) = 0 → B) := fun _ => ⟨fun q => h0 ((b2_w0 p).mp q), fun q => h1 (Decidable.byContradiction fun z => q ((b2_w0 p).mpr z))⟩
theorem zf {p : Prop} [Decidable p] {A B : Prop} (h1 : p → A) (h0 : ¬ p → B) : (b2 p = 0 ∨ b2 p = 1) → (¬ wr (b2 p) = 0 → A) ∧ (¬ (¬ wr (b2 p) = 0) → B) := fun _ => ⟨fun q => h1 (Decidable.byContradiction fun z => q ((b2_w0 p).mpr z)), fun q => h0 (fun z => q (fun w => ((b2_w0 p).mp w) z))⟩
theorem I32.wl {a : Int} (h : I32 a) : wL (wr a) = a := (wL_wr a).trans h.w
theorem g_status {s : Mem} (h : Inv s) {a : Int} (ha : I32 a) : Ag s (W_ce_status a) (W_md_status a) := by
  have wa := ha.w
  refine w_ce_status (b_ce_status_0 (p_within wa (b' := 0) (by decide) (c' := 2) (by decide) (zt (fun c => ?_) (fun c => ?_))))
  · rw [wa]
    refine ⟨⟨by omega, by omega⟩, w_md_status (b_md_status_0 (p_in ha.wl (b' := 0) (by decide) (c' := 2) (by decide) (zt (fun _ => ?_) (fun c2 => absurd c c2))))⟩
    rw [wa]
    exact ⟨⟨by omega, by omega⟩, by rw [h.2.2.1 a c.1 (by omega)], h⟩
  · exact w_md_status (b_md_status_0 (p_in ha.wl (b' := 0) (by decide) (c' := 2) (by decide) (zt (fun c2 => absurd c2 c) (fun _ => ⟨rfl, h⟩))))
theorem RSm_std {s t : Mem} (h : RSm s) (e3 : t 3 = s 3) (e4 : t 4 = s 4) (eU : ∀ j, 2 ≤ j → j ≤ 6 → t 2 j = s 2 j) (eM : ∀ j, kpJ j → ¬ j = 2 → t 34 j = s 34 j) (e0 : ∀ k, ¬ (k = 8 ∨ k = 9 ∨ k = 10 ∨ k = 11 ∨ k = 13 ∨ k = 14) → t 34 2 k = s 34 2 k) (hS : Std (t 2) (MM t) 9999) : RSm t := by
  obtain ⟨b1, ⟨b2, b3, b4, b5⟩, b6, b7⟩ := h
  have em : ∀ a, 1 ≤ a → a < 20 → MM t a = MM s a := fun a h1 h2 => eM _ (kpJ_mfld h2) (by unfold mfld; split <;> omega)
  unfold RSm
  rw [e3, e4]
  exact ⟨RSh_c b1 (fun k k0 k1 => e0 k (by omega)) (fun a a1 a2 => em a (by omega) (by omega)) (fun _ _ => rfl), ⟨Kno_c b2 (e0 15 (by omega)) (em 14 (by omega) (by omega)) (fun _ _ => rfl), Wei_c b3 (em 15 (by omega) (by omega)) rfl, Lev_c b4 (e0 16 (by omega)) (em 16 (by omega) (by omega)) (em 17 (by omega) (by omega)) (fun _ _ _ => rfl), Boo_c b5 (e0 17 (by omega)) (em 18 (by omega) (by omega)) (em 19 (by omega) (by omega)) (fun _ _ _ => rfl)⟩, hS, Edn_c b7 (e0 12 (by omega)) (fun a a1 a2 => em a (by omega) (by omega)) eU⟩
theorem RSm_tol {s t : Mem} (h : RSm s) (e3 : t 3 = s 3) (e2 : t 2 = s 2) (eM : ∀ j, kpJ j → ¬ (j = 2 ∨ (26 ≤ j ∧ j ≤ 31)) → t 34 j = s 34 j) (e0 : ∀ k, ¬ (k = 15 ∨ k = 16 ∨ k = 17) → t 34 2 k = s 34 2 k) (hT : RTo (t 4) (MM t)) : RSm t := by
  obtain ⟨b1, -, b6, b7⟩ := h
  have em : ∀ a, 1 ≤ a → a < 14 → MM t a = MM s a := fun a h1 h2 => eM _ (kpJ_mfld (by omega)) (by unfold mfld; split <;> omega)
  unfold RSm
  rw [e3, e2]
  exact ⟨RSh_c b1 (fun k k0 k1 => e0 k (by omega)) (fun a a1 a2 => em a (by omega) (by omega)) (fun _ _ => rfl), hT, Std_c b6 (fun k hk => e0 k (by omega)) (fun _ _ _ => rfl), Edn_c b7 (e0 12 (by omega)) (fun a a1 a2 => em a (by omega) (by omega)) (fun _ _ _ => rfl)⟩
theorem g_seed {s : Mem} (h : Inv s) {a : Int} (ha : I32 a) : Ag s (W_ce_seed a) (W_md_seed a) := by
  have wa := ha.w
  unfold I32 at ha
  obtain ⟨c1, c2, c3, c4, c5, c6⟩ := h.1.2.2.1
  refine w_ce_seed (b_ce_seed_0 ?_)
  unfold T_ce_seed_0 T_ce_seed_10
  rw [wa]
  refine ⟨fun c => ?_, fun c => p_ce_refuse (by omega) ?_⟩
  · rintro s1 rfl
    refine w_md_seed (b_md_seed_0 ?_)
    unfold T_md_seed_0 T_md_seed_10
    rw [wa]
    refine br_t c ?_
    rintro s2 rfl
    have e2 : ∀ k, MM (updM (updM s 2 12 0 a) 34 2 14 a) 0 k = if k = 14 then a else MM s 0 k := fun k => by
      show (updM (updM s 2 12 0 a) 34 2 14 a) 34 2 k = _
      rw [updM_s, updM_o _ (by omega)]
      rfl
    refine ⟨?_, Inv_main h (fun o ho => by rw [updM_o _ (by omega), updM_o _ (by omega)]) (fun j _ hj => by rw [updM_j _ (by omega), updM_o _ (by omega)]) (RSm_std h.1 (by rw [updM_o _ (by omega), updM_o _ (by omega)]) (by rw [updM_o _ (by omega), updM_o _ (by omega)]) (fun j j0 j1 => by rw [updM_o _ (by omega), updM_j _ (by omega)]) (fun j _ hj => by rw [updM_j _ hj, updM_o _ (by omega)]) (fun k hk => by rw [updM_s, uA_n _ (by omega), updM_o _ (by omega)]) ?_)⟩
    · rw [updM_o _ (by omega)]
      exact congrArg wr c6.1
    · unfold Std
      rw [e2, e2, e2, e2, e2, e2, updM_o _ (by omega), updM_j _ (by omega), updM_j _ (by omega), updM_j _ (by omega), updM_j _ (by omega), updM_j _ (by omega), updM_s, uA_s]
      exact ⟨c1, c2, c3, c4, c5, rfl, c, by show a ≤ _; omega⟩
  · refine w_md_seed (b_md_seed_0 ?_)
    unfold T_md_seed_0
    rw [wa]
    exact br_f c (p_md_refuses (by omega) (both_refuse h (by omega)))
theorem g_weight {s : Mem} (h : Inv s) {a b : Int} (ha : I32 a) (hb : I32 b) : Ag s (W_ce_weight a b) (W_md_weight a b) := by
  have wa := ha.w
  have wb := hb.w
  have hw := h.1.2.1.2.1
  have rf : ¬ ((1 ≤ a ∧ a ≤ 8) ∧ (0 ≤ b ∧ b ≤ 9)) → W_ce_refuse 0 s (fun r u => W_md_weight a b u (fun r2 v => wr r = wr r2 ∧ Inv v)) := fun c => by
    refine p_ce_refuse (by omega) (w_md_weight (b_md_weight_0 (p_in ha.wl (b' := 1) (by decide) (c' := 8) (by decide) (zt (fun c1 => p_in hb.wl (b' := 0) (by decide) (c' := 9) (by decide) (zf (fun c2 => absurd ⟨c1, c2⟩ c) (fun _ => p_md_refuses (by omega) (both_refuse h (by omega))))) (fun _ => p_md_refuses (by omega) (both_refuse h (by omega)))))))
  refine w_ce_weight (b_ce_weight_0 (p_within wa (b' := 1) (by decide) (c' := 8) (by decide) (zt (fun c1 => p_within wb (b' := 0) (by decide) (c' := 9) (by decide) (zf (fun c2 => ?_) (fun c2 => rf (fun z => c2 z.2)))) (fun c1 => rf (fun z => c1 z.1)))))
  unfold T_ce_weight_26
  rw [wa]
  refine ⟨⟨by omega, by omega⟩, ⟨by omega, by omega⟩, ?_⟩
  rintro s1 rfl
  refine w_md_weight (b_md_weight_0 (p_in ha.wl (b' := 1) (by decide) (c' := 8) (by decide) (zt (fun _ => p_in hb.wl (b' := 0) (by decide) (c' := 9) (by decide) (zf (fun _ => ?_) (fun z => absurd c2 z))) (fun z => absurd c1 z))))
  unfold T_md_weight_30
  rw [wa]
  refine ⟨⟨by omega, by omega⟩, ⟨by omega, by omega⟩, ?_⟩
  rintro s2 rfl
  refine ⟨?_, Inv_main h (fun o ho => by rw [updM_o _ (by omega), updM_o _ (by omega)]) (fun j _ hj => by rw [updM_j _ (by omega), updM_o _ (by omega)]) (RSm_tol h.1 (by rw [updM_o _ (by omega), updM_o _ (by omega)]) (by rw [updM_o _ (by omega), updM_o _ (by omega)]) (fun j _ hj => by rw [updM_j _ (by omega), updM_o _ (by omega)]) (fun k hk => by rw [updM_j _ (by omega), updM_o _ (by omega)]) ?_)⟩
  · rw [updM_o _ (by omega)]
    exact congrArg wr (hw a c1.1 (by omega)).1
  · obtain ⟨d1, d2, d3, d4⟩ := h.1.2.1
    have eT : updM (updM s 4 2 a b) 34 27 a b 4 = updM s 4 2 a b 4 := updM_o _ (by omega)
    have eM : ∀ x, ¬ x = 15 → MM (updM (updM s 4 2 a b) 34 27 a b) x = MM s x := fun x hx => by
      show (updM (updM s 4 2 a b) 34 27 a b) 34 (mfld x) = s 34 (mfld x)
      rw [updM_j _ (fun q => hx (mfld_inj (q.trans (show (27 : Nat) = mfld 15 from rfl)))), updM_o _ (by omega)]
    rw [eT]
    refine ⟨Kno_c d1 (by rw [eM 0 (by omega)]) (eM 14 (by omega)) (fun j hj => updM_j _ (by omega)), fun k k0 k1 => ?_, Lev_c d3 (by rw [eM 0 (by omega)]) (eM 16 (by omega)) (eM 17 (by omega)) (fun j _ _ => updM_j _ (by omega)), Boo_c d4 (by rw [eM 0 (by omega)]) (eM 18 (by omega)) (eM 19 (by omega)) (fun j _ _ => updM_j _ (by omega))⟩
    show updM s 4 2 a b 4 2 k = (updM (updM s 4 2 a b) 34 27 a b) 34 27 k ∧ 0 ≤ (updM (updM s 4 2 a b) 34 27 a b) 34 27 k ∧ (updM (updM s 4 2 a b) 34 27 a b) 34 27 k ≤ 9
    rw [updM_s, updM_s, updM_o _ (by omega)]
    by_cases q : k = a
    · rw [q, uA_s, uA_s]
      exact ⟨rfl, c2⟩
    · rw [uA_n _ q, uA_n _ q]
      exact hw k k0 k1
