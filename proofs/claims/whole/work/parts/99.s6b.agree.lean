/-! ===== the law: all calls agree, so it ends with true ===== -/
def MonoW (w : Mem → (Int → Mem → Prop) → Prop) : Prop := ∀ (s : Mem) (Q Q' : Int → Mem → Prop), (∀ r u, Q r u → Q' r u) → w s Q → w s Q'
theorem wpM_mono {E : EE} {ret : Option FieldType} {lv0 : List Nat} {as : List Vl} {σ : Mem} {Q Q' : Pst} (h : ∀ v u, Q v u → Q' v u) (hw : wpM E ret lv0 as σ Q) : wpM E ret lv0 as σ Q' := ⟨hw.1, wps.mono (fun v u q => ⟨q.1, h v u q.2⟩) hw.2⟩
theorem lcp_00 {x y : Int} (h : wL x = wL y) : wr (lcp x y) = 0 := by
  rcases lcp_cases x y with ⟨e, q⟩ | ⟨e, q⟩ | ⟨e, q⟩
  · omega
  · rw [e]; rfl
  · omega
theorem mw_ce_feed {a1 a2 a3 a4 a5 : Int} : MonoW (W_ce_feed a1 a2 a3 a4 a5) := fun _ _ _ h hw => wpM_mono (E := E_ce_feed) (fun v u q => by obtain ⟨x, e, q⟩ := q; exact ⟨x, e, h x u q⟩) hw
theorem mw_md_feed {a1 a2 a3 a4 a5 : Int} : MonoW (W_md_feed a1 a2 a3 a4 a5) := fun _ _ _ h hw => wpM_mono (E := E_md_feed) (fun v u q => by obtain ⟨x, e, q⟩ := q; exact ⟨x, e, h x u q⟩) hw
theorem k_feed {L : Nat} {xs : Nat → Int} {Q : Int → Mem → Prop} {a3 : Int} {s : Mem} (h : Inv s) (hx : ∀ j, I32 (xs j)) (hb : 0 ≤ a3 ∧ a3 + 6 ≤ (L : Int) ∧ (L : Int) ≤ 3072) (hk : ∀ v, Inv v → K_law_18 L xs Q (a3 + 6) v) : T_law_184 L xs Q a3 s := by
  obtain ⟨h0, h1, h2⟩ := hb
  have b1 : 0 ≤ wr (a3 + 1) ∧ wr (a3 + 1) < ((L + 1 : Nat) : Int) - 1 := by rw [wr_id (x := a3 + 1) (by omega) (by omega)]; omega
  have b2 : 0 ≤ wr (a3 + 2) ∧ wr (a3 + 2) < ((L + 1 : Nat) : Int) - 1 := by rw [wr_id (x := a3 + 2) (by omega) (by omega)]; omega
  have b3 : 0 ≤ wr (a3 + 3) ∧ wr (a3 + 3) < ((L + 1 : Nat) : Int) - 1 := by rw [wr_id (x := a3 + 3) (by omega) (by omega)]; omega
  have b4 : 0 ≤ wr (a3 + 4) ∧ wr (a3 + 4) < ((L + 1 : Nat) : Int) - 1 := by rw [wr_id (x := a3 + 4) (by omega) (by omega)]; omega
  have b5 : 0 ≤ wr (a3 + 5) ∧ wr (a3 + 5) < ((L + 1 : Nat) : Int) - 1 := by rw [wr_id (x := a3 + 5) (by omega) (by omega)]; omega
  exact ⟨b1, b2, b3, b4, b5, mw_ce_feed _ _ _ (fun r u hq => ⟨b1, b2, b3, b4, b5, mw_md_feed _ _ _ (fun r2 v hv => ⟨fun _ => hk v hv.2, fun z => absurd hv.1 z⟩) hq⟩) (g_feed h (hx _))⟩
theorem mw_ce_end {a1 : Int} : MonoW (W_ce_end a1) := fun _ _ _ h hw => wpM_mono (E := E_ce_end) (fun v u q => by obtain ⟨x, e, q⟩ := q; exact ⟨x, e, h x u q⟩) hw
theorem mw_md_end {a1 : Int} : MonoW (W_md_end a1) := fun _ _ _ h hw => wpM_mono (E := E_md_end) (fun v u q => by obtain ⟨x, e, q⟩ := q; exact ⟨x, e, h x u q⟩) hw
theorem k_end {L : Nat} {xs : Nat → Int} {Q : Int → Mem → Prop} {a3 : Int} {s : Mem} (h : Inv s) (hx : ∀ j, I32 (xs j)) (hb : 0 ≤ a3 ∧ a3 + 6 ≤ (L : Int) ∧ (L : Int) ≤ 3072) (hk : ∀ v, Inv v → K_law_18 L xs Q (a3 + 6) v) : T_law_247 L xs Q a3 s := by
  obtain ⟨h0, h1, h2⟩ := hb
  have b1 : 0 ≤ wr (a3 + 1) ∧ wr (a3 + 1) < ((L + 1 : Nat) : Int) - 1 := by rw [wr_id (x := a3 + 1) (by omega) (by omega)]; omega
  exact ⟨b1, mw_ce_end _ _ _ (fun r u hq => ⟨b1, mw_md_end _ _ _ (fun r2 v hv => ⟨fun _ => hk v hv.2, fun z => absurd hv.1 z⟩) hq⟩) (g_end h (hx _))⟩
theorem mw_ce_shop : MonoW (W_ce_shop) := fun _ _ _ h hw => wpM_mono (E := E_ce_shop) (fun v u q => by obtain ⟨x, e, q⟩ := q; exact ⟨x, e, h x u q⟩) hw
theorem mw_md_shop : MonoW (W_md_shop) := fun _ _ _ h hw => wpM_mono (E := E_md_shop) (fun v u q => by obtain ⟨x, e, q⟩ := q; exact ⟨x, e, h x u q⟩) hw
theorem k_shop {L : Nat} {xs : Nat → Int} {Q : Int → Mem → Prop} {a3 : Int} {s : Mem} (h : Inv s) (hx : ∀ j, I32 (xs j)) (hb : 0 ≤ a3 ∧ a3 + 6 ≤ (L : Int) ∧ (L : Int) ≤ 3072) (hk : ∀ v, Inv v → K_law_18 L xs Q (a3 + 6) v) : T_law_270 L xs Q a3 s := by
  obtain ⟨h0, h1, h2⟩ := hb
  exact mw_ce_shop _ _ _ (fun r u hq => mw_md_shop _ _ _ (fun r2 v hv => ⟨fun _ => hk v hv.2, fun z => absurd hv.1 z⟩) hq) (g_shop h)
theorem mw_ce_rule : MonoW (W_ce_rule) := fun _ _ _ h hw => wpM_mono (E := E_ce_rule) (fun v u q => by obtain ⟨x, e, q⟩ := q; exact ⟨x, e, h x u q⟩) hw
theorem mw_md_rule : MonoW (W_md_rule) := fun _ _ _ h hw => wpM_mono (E := E_md_rule) (fun v u q => by obtain ⟨x, e, q⟩ := q; exact ⟨x, e, h x u q⟩) hw
theorem k_rule {L : Nat} {xs : Nat → Int} {Q : Int → Mem → Prop} {a3 : Int} {s : Mem} (h : Inv s) (hx : ∀ j, I32 (xs j)) (hb : 0 ≤ a3 ∧ a3 + 6 ≤ (L : Int) ∧ (L : Int) ≤ 3072) (hk : ∀ v, Inv v → K_law_18 L xs Q (a3 + 6) v) : T_law_283 L xs Q a3 s := by
  obtain ⟨h0, h1, h2⟩ := hb
  exact mw_ce_rule _ _ _ (fun r u hq => mw_md_rule _ _ _ (fun r2 v hv => ⟨fun _ => hk v hv.2, fun z => absurd hv.1 z⟩) hq) (g_rule h)
theorem mw_ce_bale {a1 a2 : Int} : MonoW (W_ce_bale a1 a2) := fun _ _ _ h hw => wpM_mono (E := E_ce_bale) (fun v u q => by obtain ⟨x, e, q⟩ := q; exact ⟨x, e, h x u q⟩) hw
theorem mw_md_bale {a1 a2 : Int} : MonoW (W_md_bale a1 a2) := fun _ _ _ h hw => wpM_mono (E := E_md_bale) (fun v u q => by obtain ⟨x, e, q⟩ := q; exact ⟨x, e, h x u q⟩) hw
theorem k_bale {L : Nat} {xs : Nat → Int} {Q : Int → Mem → Prop} {a3 : Int} {s : Mem} (h : Inv s) (hx : ∀ j, I32 (xs j)) (hb : 0 ≤ a3 ∧ a3 + 6 ≤ (L : Int) ∧ (L : Int) ≤ 3072) (hk : ∀ v, Inv v → K_law_18 L xs Q (a3 + 6) v) : T_law_296 L xs Q a3 s := by
  obtain ⟨h0, h1, h2⟩ := hb
  have b1 : 0 ≤ wr (a3 + 1) ∧ wr (a3 + 1) < ((L + 1 : Nat) : Int) - 1 := by rw [wr_id (x := a3 + 1) (by omega) (by omega)]; omega
  have b2 : 0 ≤ wr (a3 + 2) ∧ wr (a3 + 2) < ((L + 1 : Nat) : Int) - 1 := by rw [wr_id (x := a3 + 2) (by omega) (by omega)]; omega
  exact ⟨b1, b2, mw_ce_bale _ _ _ (fun r u hq => ⟨b1, b2, mw_md_bale _ _ _ (fun r2 v hv => ⟨fun _ => hk v hv.2, fun z => absurd hv.1 z⟩) hq⟩) (g_bale h (hx _) (hx _))⟩
theorem mw_ce_cut {a1 a2 : Int} : MonoW (W_ce_cut a1 a2) := fun _ _ _ h hw => wpM_mono (E := E_ce_cut) (fun v u q => by obtain ⟨x, e, q⟩ := q; exact ⟨x, e, h x u q⟩) hw
theorem mw_md_cut {a1 a2 : Int} : MonoW (W_md_cut a1 a2) := fun _ _ _ h hw => wpM_mono (E := E_md_cut) (fun v u q => by obtain ⟨x, e, q⟩ := q; exact ⟨x, e, h x u q⟩) hw
theorem k_cut {L : Nat} {xs : Nat → Int} {Q : Int → Mem → Prop} {a3 : Int} {s : Mem} (h : Inv s) (hx : ∀ j, I32 (xs j)) (hb : 0 ≤ a3 ∧ a3 + 6 ≤ (L : Int) ∧ (L : Int) ≤ 3072) (hk : ∀ v, Inv v → K_law_18 L xs Q (a3 + 6) v) : T_law_329 L xs Q a3 s := by
  obtain ⟨h0, h1, h2⟩ := hb
  have b1 : 0 ≤ wr (a3 + 1) ∧ wr (a3 + 1) < ((L + 1 : Nat) : Int) - 1 := by rw [wr_id (x := a3 + 1) (by omega) (by omega)]; omega
  have b2 : 0 ≤ wr (a3 + 2) ∧ wr (a3 + 2) < ((L + 1 : Nat) : Int) - 1 := by rw [wr_id (x := a3 + 2) (by omega) (by omega)]; omega
  exact ⟨b1, b2, mw_ce_cut _ _ _ (fun r u hq => ⟨b1, b2, mw_md_cut _ _ _ (fun r2 v hv => ⟨fun _ => hk v hv.2, fun z => absurd hv.1 z⟩) hq⟩) (g_cut h (hx _) (hx _))⟩
theorem mw_ce_tear {a1 a2 : Int} : MonoW (W_ce_tear a1 a2) := fun _ _ _ h hw => wpM_mono (E := E_ce_tear) (fun v u q => by obtain ⟨x, e, q⟩ := q; exact ⟨x, e, h x u q⟩) hw
theorem mw_md_tear {a1 a2 : Int} : MonoW (W_md_tear a1 a2) := fun _ _ _ h hw => wpM_mono (E := E_md_tear) (fun v u q => by obtain ⟨x, e, q⟩ := q; exact ⟨x, e, h x u q⟩) hw
theorem k_tear {L : Nat} {xs : Nat → Int} {Q : Int → Mem → Prop} {a3 : Int} {s : Mem} (h : Inv s) (hx : ∀ j, I32 (xs j)) (hb : 0 ≤ a3 ∧ a3 + 6 ≤ (L : Int) ∧ (L : Int) ≤ 3072) (hk : ∀ v, Inv v → K_law_18 L xs Q (a3 + 6) v) : T_law_362 L xs Q a3 s := by
  obtain ⟨h0, h1, h2⟩ := hb
  have b1 : 0 ≤ wr (a3 + 1) ∧ wr (a3 + 1) < ((L + 1 : Nat) : Int) - 1 := by rw [wr_id (x := a3 + 1) (by omega) (by omega)]; omega
  have b2 : 0 ≤ wr (a3 + 2) ∧ wr (a3 + 2) < ((L + 1 : Nat) : Int) - 1 := by rw [wr_id (x := a3 + 2) (by omega) (by omega)]; omega
  exact ⟨b1, b2, mw_ce_tear _ _ _ (fun r u hq => ⟨b1, b2, mw_md_tear _ _ _ (fun r2 v hv => ⟨fun _ => hk v hv.2, fun z => absurd hv.1 z⟩) hq⟩) (g_tear h (hx _) (hx _))⟩
theorem mw_ce_basket {a1 : Int} : MonoW (W_ce_basket a1) := fun _ _ _ h hw => wpM_mono (E := E_ce_basket) (fun v u q => by obtain ⟨x, e, q⟩ := q; exact ⟨x, e, h x u q⟩) hw
theorem mw_md_basket {a1 : Int} : MonoW (W_md_basket a1) := fun _ _ _ h hw => wpM_mono (E := E_md_basket) (fun v u q => by obtain ⟨x, e, q⟩ := q; exact ⟨x, e, h x u q⟩) hw
theorem k_basket {L : Nat} {xs : Nat → Int} {Q : Int → Mem → Prop} {a3 : Int} {s : Mem} (h : Inv s) (hx : ∀ j, I32 (xs j)) (hb : 0 ≤ a3 ∧ a3 + 6 ≤ (L : Int) ∧ (L : Int) ≤ 3072) (hk : ∀ v, Inv v → K_law_18 L xs Q (a3 + 6) v) : T_law_395 L xs Q a3 s := by
  obtain ⟨h0, h1, h2⟩ := hb
  have b1 : 0 ≤ wr (a3 + 1) ∧ wr (a3 + 1) < ((L + 1 : Nat) : Int) - 1 := by rw [wr_id (x := a3 + 1) (by omega) (by omega)]; omega
  exact ⟨b1, mw_ce_basket _ _ _ (fun r u hq => ⟨b1, mw_md_basket _ _ _ (fun r2 v hv => ⟨fun _ => hk v hv.2, fun z => absurd hv.1 z⟩) hq⟩) (g_basket h (hx _))⟩
theorem mw_ce_ends {a1 a2 : Int} : MonoW (W_ce_ends a1 a2) := fun _ _ _ h hw => wpM_mono (E := E_ce_ends) (fun v u q => by obtain ⟨x, e, q⟩ := q; exact ⟨x, e, h x u q⟩) hw
theorem mw_md_ends {a1 a2 : Int} : MonoW (W_md_ends a1 a2) := fun _ _ _ h hw => wpM_mono (E := E_md_ends) (fun v u q => by obtain ⟨x, e, q⟩ := q; exact ⟨x, e, h x u q⟩) hw
theorem k_ends {L : Nat} {xs : Nat → Int} {Q : Int → Mem → Prop} {a3 : Int} {s : Mem} (h : Inv s) (hx : ∀ j, I32 (xs j)) (hb : 0 ≤ a3 ∧ a3 + 6 ≤ (L : Int) ∧ (L : Int) ≤ 3072) (hk : ∀ v, Inv v → K_law_18 L xs Q (a3 + 6) v) : T_law_418 L xs Q a3 s := by
  obtain ⟨h0, h1, h2⟩ := hb
  have b1 : 0 ≤ wr (a3 + 1) ∧ wr (a3 + 1) < ((L + 1 : Nat) : Int) - 1 := by rw [wr_id (x := a3 + 1) (by omega) (by omega)]; omega
  have b2 : 0 ≤ wr (a3 + 2) ∧ wr (a3 + 2) < ((L + 1 : Nat) : Int) - 1 := by rw [wr_id (x := a3 + 2) (by omega) (by omega)]; omega
  exact ⟨b1, b2, mw_ce_ends _ _ _ (fun r u hq => ⟨b1, b2, mw_md_ends _ _ _ (fun r2 v hv => ⟨fun _ => hk v hv.2, fun z => absurd hv.1 z⟩) hq⟩) (g_ends h (hx _) (hx _))⟩
theorem mw_ce_out {a1 : Int} : MonoW (W_ce_out a1) := fun _ _ _ h hw => wpM_mono (E := E_ce_out) (fun v u q => by obtain ⟨x, e, q⟩ := q; exact ⟨x, e, h x u q⟩) hw
theorem mw_md_out {a1 : Int} : MonoW (W_md_out a1) := fun _ _ _ h hw => wpM_mono (E := E_md_out) (fun v u q => by obtain ⟨x, e, q⟩ := q; exact ⟨x, e, h x u q⟩) hw
theorem k_out {L : Nat} {xs : Nat → Int} {Q : Int → Mem → Prop} {a3 : Int} {s : Mem} (h : Inv s) (hx : ∀ j, I32 (xs j)) (hb : 0 ≤ a3 ∧ a3 + 6 ≤ (L : Int) ∧ (L : Int) ≤ 3072) (hk : ∀ v, Inv v → K_law_18 L xs Q (a3 + 6) v) : T_law_451 L xs Q a3 s := by
  obtain ⟨h0, h1, h2⟩ := hb
  have b1 : 0 ≤ wr (a3 + 1) ∧ wr (a3 + 1) < ((L + 1 : Nat) : Int) - 1 := by rw [wr_id (x := a3 + 1) (by omega) (by omega)]; omega
  exact ⟨b1, mw_ce_out _ _ _ (fun r u hq => ⟨b1, mw_md_out _ _ _ (fun r2 v hv => ⟨fun _ => hk v hv.2, fun z => absurd hv.1 z⟩) hq⟩) (g_out h (hx _))⟩
theorem mw_ce_serve {a1 a2 : Int} : MonoW (W_ce_serve a1 a2) := fun _ _ _ h hw => wpM_mono (E := E_ce_serve) (fun v u q => by obtain ⟨x, e, q⟩ := q; exact ⟨x, e, h x u q⟩) hw
theorem mw_md_serve {a1 a2 : Int} : MonoW (W_md_serve a1 a2) := fun _ _ _ h hw => wpM_mono (E := E_md_serve) (fun v u q => by obtain ⟨x, e, q⟩ := q; exact ⟨x, e, h x u q⟩) hw
theorem k_serve {L : Nat} {xs : Nat → Int} {Q : Int → Mem → Prop} {a3 : Int} {s : Mem} (h : Inv s) (hx : ∀ j, I32 (xs j)) (hb : 0 ≤ a3 ∧ a3 + 6 ≤ (L : Int) ∧ (L : Int) ≤ 3072) (hk : ∀ v, Inv v → K_law_18 L xs Q (a3 + 6) v) : T_law_474 L xs Q a3 s := by
  obtain ⟨h0, h1, h2⟩ := hb
  have b1 : 0 ≤ wr (a3 + 1) ∧ wr (a3 + 1) < ((L + 1 : Nat) : Int) - 1 := by rw [wr_id (x := a3 + 1) (by omega) (by omega)]; omega
  have b2 : 0 ≤ wr (a3 + 2) ∧ wr (a3 + 2) < ((L + 1 : Nat) : Int) - 1 := by rw [wr_id (x := a3 + 2) (by omega) (by omega)]; omega
  exact ⟨b1, b2, mw_ce_serve _ _ _ (fun r u hq => ⟨b1, b2, mw_md_serve _ _ _ (fun r2 v hv => ⟨fun _ => hk v hv.2, fun z => absurd hv.1 z⟩) hq⟩) (g_serve h (hx _) (hx _))⟩
theorem mw_ce_day {a1 a2 a3 : Int} : MonoW (W_ce_day a1 a2 a3) := fun _ _ _ h hw => wpM_mono (E := E_ce_day) (fun v u q => by obtain ⟨x, e, q⟩ := q; exact ⟨x, e, h x u q⟩) hw
theorem mw_md_day {a1 a2 a3 : Int} : MonoW (W_md_day a1 a2 a3) := fun _ _ _ h hw => wpM_mono (E := E_md_day) (fun v u q => by obtain ⟨x, e, q⟩ := q; exact ⟨x, e, h x u q⟩) hw
theorem k_day {L : Nat} {xs : Nat → Int} {Q : Int → Mem → Prop} {a3 : Int} {s : Mem} (h : Inv s) (hx : ∀ j, I32 (xs j)) (hb : 0 ≤ a3 ∧ a3 + 6 ≤ (L : Int) ∧ (L : Int) ≤ 3072) (hk : ∀ v, Inv v → K_law_18 L xs Q (a3 + 6) v) : T_law_507 L xs Q a3 s := by
  obtain ⟨h0, h1, h2⟩ := hb
  have b1 : 0 ≤ wr (a3 + 1) ∧ wr (a3 + 1) < ((L + 1 : Nat) : Int) - 1 := by rw [wr_id (x := a3 + 1) (by omega) (by omega)]; omega
  have b2 : 0 ≤ wr (a3 + 2) ∧ wr (a3 + 2) < ((L + 1 : Nat) : Int) - 1 := by rw [wr_id (x := a3 + 2) (by omega) (by omega)]; omega
  have b3 : 0 ≤ wr (a3 + 3) ∧ wr (a3 + 3) < ((L + 1 : Nat) : Int) - 1 := by rw [wr_id (x := a3 + 3) (by omega) (by omega)]; omega
  exact ⟨b1, b2, b3, mw_ce_day _ _ _ (fun r u hq => ⟨b1, b2, b3, mw_md_day _ _ _ (fun r2 v hv => ⟨fun _ => hk v hv.2, fun z => absurd hv.1 z⟩) hq⟩) (g_day h (hx _) (hx _) (hx _))⟩
theorem mw_ce_days {a1 a2 a3 a4 a5 : Int} : MonoW (W_ce_days a1 a2 a3 a4 a5) := fun _ _ _ h hw => wpM_mono (E := E_ce_days) (fun v u q => by obtain ⟨x, e, q⟩ := q; exact ⟨x, e, h x u q⟩) hw
theorem mw_md_days {a1 a2 a3 a4 a5 : Int} : MonoW (W_md_days a1 a2 a3 a4 a5) := fun _ _ _ h hw => wpM_mono (E := E_md_days) (fun v u q => by obtain ⟨x, e, q⟩ := q; exact ⟨x, e, h x u q⟩) hw
theorem k_days {L : Nat} {xs : Nat → Int} {Q : Int → Mem → Prop} {a3 : Int} {s : Mem} (h : Inv s) (hx : ∀ j, I32 (xs j)) (hb : 0 ≤ a3 ∧ a3 + 6 ≤ (L : Int) ∧ (L : Int) ≤ 3072) (hk : ∀ v, Inv v → K_law_18 L xs Q (a3 + 6) v) : T_law_550 L xs Q a3 s := by
  obtain ⟨h0, h1, h2⟩ := hb
  have b1 : 0 ≤ wr (a3 + 1) ∧ wr (a3 + 1) < ((L + 1 : Nat) : Int) - 1 := by rw [wr_id (x := a3 + 1) (by omega) (by omega)]; omega
  have b2 : 0 ≤ wr (a3 + 2) ∧ wr (a3 + 2) < ((L + 1 : Nat) : Int) - 1 := by rw [wr_id (x := a3 + 2) (by omega) (by omega)]; omega
  have b3 : 0 ≤ wr (a3 + 3) ∧ wr (a3 + 3) < ((L + 1 : Nat) : Int) - 1 := by rw [wr_id (x := a3 + 3) (by omega) (by omega)]; omega
  have b4 : 0 ≤ wr (a3 + 4) ∧ wr (a3 + 4) < ((L + 1 : Nat) : Int) - 1 := by rw [wr_id (x := a3 + 4) (by omega) (by omega)]; omega
  have b5 : 0 ≤ wr (a3 + 5) ∧ wr (a3 + 5) < ((L + 1 : Nat) : Int) - 1 := by rw [wr_id (x := a3 + 5) (by omega) (by omega)]; omega
  exact ⟨b1, b2, b3, b4, b5, mw_ce_days _ _ _ (fun r u hq => ⟨b1, b2, b3, b4, b5, mw_md_days _ _ _ (fun r2 v hv => ⟨fun _ => hk v hv.2, fun z => absurd hv.1 z⟩) hq⟩) (g_days h (hx _) (hx _) (hx _) (hx _) (hx _))⟩
theorem mw_ce_known {a1 : Int} : MonoW (W_ce_known a1) := fun _ _ _ h hw => wpM_mono (E := E_ce_known) (fun v u q => by obtain ⟨x, e, q⟩ := q; exact ⟨x, e, h x u q⟩) hw
theorem mw_md_known {a1 : Int} : MonoW (W_md_known a1) := fun _ _ _ h hw => wpM_mono (E := E_md_known) (fun v u q => by obtain ⟨x, e, q⟩ := q; exact ⟨x, e, h x u q⟩) hw
theorem k_known {L : Nat} {xs : Nat → Int} {Q : Int → Mem → Prop} {a3 : Int} {s : Mem} (h : Inv s) (hx : ∀ j, I32 (xs j)) (hb : 0 ≤ a3 ∧ a3 + 6 ≤ (L : Int) ∧ (L : Int) ≤ 3072) (hk : ∀ v, Inv v → K_law_18 L xs Q (a3 + 6) v) : T_law_613 L xs Q a3 s := by
  obtain ⟨h0, h1, h2⟩ := hb
  have b1 : 0 ≤ wr (a3 + 1) ∧ wr (a3 + 1) < ((L + 1 : Nat) : Int) - 1 := by rw [wr_id (x := a3 + 1) (by omega) (by omega)]; omega
  exact ⟨b1, mw_ce_known _ _ _ (fun r u hq => ⟨b1, mw_md_known _ _ _ (fun r2 v hv => ⟨fun _ => hk v hv.2, fun z => absurd hv.1 z⟩) hq⟩) (g_known h (hx _))⟩
theorem mw_ce_all {a1 : Int} : MonoW (W_ce_all a1) := fun _ _ _ h hw => wpM_mono (E := E_ce_all) (fun v u q => by obtain ⟨x, e, q⟩ := q; exact ⟨x, e, h x u q⟩) hw
theorem mw_md_all {a1 : Int} : MonoW (W_md_all a1) := fun _ _ _ h hw => wpM_mono (E := E_md_all) (fun v u q => by obtain ⟨x, e, q⟩ := q; exact ⟨x, e, h x u q⟩) hw
theorem k_all {L : Nat} {xs : Nat → Int} {Q : Int → Mem → Prop} {a3 : Int} {s : Mem} (h : Inv s) (hx : ∀ j, I32 (xs j)) (hb : 0 ≤ a3 ∧ a3 + 6 ≤ (L : Int) ∧ (L : Int) ≤ 3072) (hk : ∀ v, Inv v → K_law_18 L xs Q (a3 + 6) v) : T_law_636 L xs Q a3 s := by
  obtain ⟨h0, h1, h2⟩ := hb
  have b1 : 0 ≤ wr (a3 + 1) ∧ wr (a3 + 1) < ((L + 1 : Nat) : Int) - 1 := by rw [wr_id (x := a3 + 1) (by omega) (by omega)]; omega
  exact ⟨b1, mw_ce_all _ _ _ (fun r u hq => ⟨b1, mw_md_all _ _ _ (fun r2 v hv => ⟨fun _ => hk v hv.2, fun z => absurd hv.1 z⟩) hq⟩) (g_all h (hx _))⟩
theorem mw_ce_weight {a1 a2 : Int} : MonoW (W_ce_weight a1 a2) := fun _ _ _ h hw => wpM_mono (E := E_ce_weight) (fun v u q => by obtain ⟨x, e, q⟩ := q; exact ⟨x, e, h x u q⟩) hw
theorem mw_md_weight {a1 a2 : Int} : MonoW (W_md_weight a1 a2) := fun _ _ _ h hw => wpM_mono (E := E_md_weight) (fun v u q => by obtain ⟨x, e, q⟩ := q; exact ⟨x, e, h x u q⟩) hw
theorem k_weight {L : Nat} {xs : Nat → Int} {Q : Int → Mem → Prop} {a3 : Int} {s : Mem} (h : Inv s) (hx : ∀ j, I32 (xs j)) (hb : 0 ≤ a3 ∧ a3 + 6 ≤ (L : Int) ∧ (L : Int) ≤ 3072) (hk : ∀ v, Inv v → K_law_18 L xs Q (a3 + 6) v) : T_law_659 L xs Q a3 s := by
  obtain ⟨h0, h1, h2⟩ := hb
  have b1 : 0 ≤ wr (a3 + 1) ∧ wr (a3 + 1) < ((L + 1 : Nat) : Int) - 1 := by rw [wr_id (x := a3 + 1) (by omega) (by omega)]; omega
  have b2 : 0 ≤ wr (a3 + 2) ∧ wr (a3 + 2) < ((L + 1 : Nat) : Int) - 1 := by rw [wr_id (x := a3 + 2) (by omega) (by omega)]; omega
  exact ⟨b1, b2, mw_ce_weight _ _ _ (fun r u hq => ⟨b1, b2, mw_md_weight _ _ _ (fun r2 v hv => ⟨fun _ => hk v hv.2, fun z => absurd hv.1 z⟩) hq⟩) (g_weight h (hx _) (hx _))⟩
theorem mw_ce_which {a1 a2 a3 : Int} : MonoW (W_ce_which a1 a2 a3) := fun _ _ _ h hw => wpM_mono (E := E_ce_which) (fun v u q => by obtain ⟨x, e, q⟩ := q; exact ⟨x, e, h x u q⟩) hw
theorem mw_md_which {a1 a2 a3 : Int} : MonoW (W_md_which a1 a2 a3) := fun _ _ _ h hw => wpM_mono (E := E_md_which) (fun v u q => by obtain ⟨x, e, q⟩ := q; exact ⟨x, e, h x u q⟩) hw
theorem k_which {L : Nat} {xs : Nat → Int} {Q : Int → Mem → Prop} {a3 : Int} {s : Mem} (h : Inv s) (hx : ∀ j, I32 (xs j)) (hb : 0 ≤ a3 ∧ a3 + 6 ≤ (L : Int) ∧ (L : Int) ≤ 3072) (hk : ∀ v, Inv v → K_law_18 L xs Q (a3 + 6) v) : T_law_692 L xs Q a3 s := by
  obtain ⟨h0, h1, h2⟩ := hb
  have b1 : 0 ≤ wr (a3 + 1) ∧ wr (a3 + 1) < ((L + 1 : Nat) : Int) - 1 := by rw [wr_id (x := a3 + 1) (by omega) (by omega)]; omega
  have b2 : 0 ≤ wr (a3 + 2) ∧ wr (a3 + 2) < ((L + 1 : Nat) : Int) - 1 := by rw [wr_id (x := a3 + 2) (by omega) (by omega)]; omega
  have b3 : 0 ≤ wr (a3 + 3) ∧ wr (a3 + 3) < ((L + 1 : Nat) : Int) - 1 := by rw [wr_id (x := a3 + 3) (by omega) (by omega)]; omega
  exact ⟨b1, b2, b3, mw_ce_which _ _ _ (fun r u hq => ⟨b1, b2, b3, mw_md_which _ _ _ (fun r2 v hv => ⟨fun _ => hk v hv.2, fun z => absurd (lcp_00 hv.1) z⟩) hq⟩) (g_which h (hx _) (hx _) (hx _))⟩
theorem mw_ce_drops {a1 a2 : Int} : MonoW (W_ce_drops a1 a2) := fun _ _ _ h hw => wpM_mono (E := E_ce_drops) (fun v u q => by obtain ⟨x, e, q⟩ := q; exact ⟨x, e, h x u q⟩) hw
theorem mw_md_drops {a1 a2 : Int} : MonoW (W_md_drops a1 a2) := fun _ _ _ h hw => wpM_mono (E := E_md_drops) (fun v u q => by obtain ⟨x, e, q⟩ := q; exact ⟨x, e, h x u q⟩) hw
theorem k_drops {L : Nat} {xs : Nat → Int} {Q : Int → Mem → Prop} {a3 : Int} {s : Mem} (h : Inv s) (hx : ∀ j, I32 (xs j)) (hb : 0 ≤ a3 ∧ a3 + 6 ≤ (L : Int) ∧ (L : Int) ≤ 3072) (hk : ∀ v, Inv v → K_law_18 L xs Q (a3 + 6) v) : T_law_736 L xs Q a3 s := by
  obtain ⟨h0, h1, h2⟩ := hb
  have b1 : 0 ≤ wr (a3 + 1) ∧ wr (a3 + 1) < ((L + 1 : Nat) : Int) - 1 := by rw [wr_id (x := a3 + 1) (by omega) (by omega)]; omega
  have b2 : 0 ≤ wr (a3 + 2) ∧ wr (a3 + 2) < ((L + 1 : Nat) : Int) - 1 := by rw [wr_id (x := a3 + 2) (by omega) (by omega)]; omega
  exact ⟨b1, b2, mw_ce_drops _ _ _ (fun r u hq => ⟨b1, b2, mw_md_drops _ _ _ (fun r2 v hv => ⟨fun _ => hk v hv.2, fun z => absurd hv.1 z⟩) hq⟩) (g_drops h (hx _) (hx _))⟩
theorem mw_ce_lots {a1 a2 : Int} : MonoW (W_ce_lots a1 a2) := fun _ _ _ h hw => wpM_mono (E := E_ce_lots) (fun v u q => by obtain ⟨x, e, q⟩ := q; exact ⟨x, e, h x u q⟩) hw
theorem mw_md_lots {a1 a2 : Int} : MonoW (W_md_lots a1 a2) := fun _ _ _ h hw => wpM_mono (E := E_md_lots) (fun v u q => by obtain ⟨x, e, q⟩ := q; exact ⟨x, e, h x u q⟩) hw
theorem k_lots {L : Nat} {xs : Nat → Int} {Q : Int → Mem → Prop} {a3 : Int} {s : Mem} (h : Inv s) (hx : ∀ j, I32 (xs j)) (hb : 0 ≤ a3 ∧ a3 + 6 ≤ (L : Int) ∧ (L : Int) ≤ 3072) (hk : ∀ v, Inv v → K_law_18 L xs Q (a3 + 6) v) : T_law_769 L xs Q a3 s := by
  obtain ⟨h0, h1, h2⟩ := hb
  have b1 : 0 ≤ wr (a3 + 1) ∧ wr (a3 + 1) < ((L + 1 : Nat) : Int) - 1 := by rw [wr_id (x := a3 + 1) (by omega) (by omega)]; omega
  have b2 : 0 ≤ wr (a3 + 2) ∧ wr (a3 + 2) < ((L + 1 : Nat) : Int) - 1 := by rw [wr_id (x := a3 + 2) (by omega) (by omega)]; omega
  exact ⟨b1, b2, mw_ce_lots _ _ _ (fun r u hq => ⟨b1, b2, mw_md_lots _ _ _ (fun r2 v hv => ⟨fun _ => hk v hv.2, fun z => absurd hv.1 z⟩) hq⟩) (g_lots h (hx _) (hx _))⟩
theorem mw_ce_meet {a1 a2 a3 a4 : Int} : MonoW (W_ce_meet a1 a2 a3 a4) := fun _ _ _ h hw => wpM_mono (E := E_ce_meet) (fun v u q => by obtain ⟨x, e, q⟩ := q; exact ⟨x, e, h x u q⟩) hw
theorem mw_md_meet {a1 a2 a3 a4 : Int} : MonoW (W_md_meet a1 a2 a3 a4) := fun _ _ _ h hw => wpM_mono (E := E_md_meet) (fun v u q => by obtain ⟨x, e, q⟩ := q; exact ⟨x, e, h x u q⟩) hw
theorem k_meet {L : Nat} {xs : Nat → Int} {Q : Int → Mem → Prop} {a3 : Int} {s : Mem} (h : Inv s) (hx : ∀ j, I32 (xs j)) (hb : 0 ≤ a3 ∧ a3 + 6 ≤ (L : Int) ∧ (L : Int) ≤ 3072) (hk : ∀ v, Inv v → K_law_18 L xs Q (a3 + 6) v) : T_law_802 L xs Q a3 s := by
  obtain ⟨h0, h1, h2⟩ := hb
  have b1 : 0 ≤ wr (a3 + 1) ∧ wr (a3 + 1) < ((L + 1 : Nat) : Int) - 1 := by rw [wr_id (x := a3 + 1) (by omega) (by omega)]; omega
  have b2 : 0 ≤ wr (a3 + 2) ∧ wr (a3 + 2) < ((L + 1 : Nat) : Int) - 1 := by rw [wr_id (x := a3 + 2) (by omega) (by omega)]; omega
  have b3 : 0 ≤ wr (a3 + 3) ∧ wr (a3 + 3) < ((L + 1 : Nat) : Int) - 1 := by rw [wr_id (x := a3 + 3) (by omega) (by omega)]; omega
  have b4 : 0 ≤ wr (a3 + 4) ∧ wr (a3 + 4) < ((L + 1 : Nat) : Int) - 1 := by rw [wr_id (x := a3 + 4) (by omega) (by omega)]; omega
  exact ⟨b1, b2, b3, b4, mw_ce_meet _ _ _ (fun r u hq => ⟨b1, b2, b3, b4, mw_md_meet _ _ _ (fun r2 v hv => ⟨fun _ => hk v hv.2, fun z => absurd hv.1 z⟩) hq⟩) (g_meet h (hx _) (hx _) (hx _) (hx _))⟩
theorem mw_ce_seam {a1 a2 a3 : Int} : MonoW (W_ce_seam a1 a2 a3) := fun _ _ _ h hw => wpM_mono (E := E_ce_seam) (fun v u q => by obtain ⟨x, e, q⟩ := q; exact ⟨x, e, h x u q⟩) hw
theorem mw_md_seam {a1 a2 a3 : Int} : MonoW (W_md_seam a1 a2 a3) := fun _ _ _ h hw => wpM_mono (E := E_md_seam) (fun v u q => by obtain ⟨x, e, q⟩ := q; exact ⟨x, e, h x u q⟩) hw
theorem k_seam {L : Nat} {xs : Nat → Int} {Q : Int → Mem → Prop} {a3 : Int} {s : Mem} (h : Inv s) (hx : ∀ j, I32 (xs j)) (hb : 0 ≤ a3 ∧ a3 + 6 ≤ (L : Int) ∧ (L : Int) ≤ 3072) (hk : ∀ v, Inv v → K_law_18 L xs Q (a3 + 6) v) : T_law_855 L xs Q a3 s := by
  obtain ⟨h0, h1, h2⟩ := hb
  have b1 : 0 ≤ wr (a3 + 1) ∧ wr (a3 + 1) < ((L + 1 : Nat) : Int) - 1 := by rw [wr_id (x := a3 + 1) (by omega) (by omega)]; omega
  have b2 : 0 ≤ wr (a3 + 2) ∧ wr (a3 + 2) < ((L + 1 : Nat) : Int) - 1 := by rw [wr_id (x := a3 + 2) (by omega) (by omega)]; omega
  have b3 : 0 ≤ wr (a3 + 3) ∧ wr (a3 + 3) < ((L + 1 : Nat) : Int) - 1 := by rw [wr_id (x := a3 + 3) (by omega) (by omega)]; omega
  exact ⟨b1, b2, b3, mw_ce_seam _ _ _ (fun r u hq => ⟨b1, b2, b3, mw_md_seam _ _ _ (fun r2 v hv => ⟨fun _ => hk v hv.2, fun z => absurd hv.1 z⟩) hq⟩) (g_seam h (hx _) (hx _) (hx _))⟩
theorem mw_ce_made : MonoW (W_ce_made) := fun _ _ _ h hw => wpM_mono (E := E_ce_made) (fun v u q => by obtain ⟨x, e, q⟩ := q; exact ⟨x, e, h x u q⟩) hw
theorem mw_md_made : MonoW (W_md_made) := fun _ _ _ h hw => wpM_mono (E := E_md_made) (fun v u q => by obtain ⟨x, e, q⟩ := q; exact ⟨x, e, h x u q⟩) hw
theorem k_made {L : Nat} {xs : Nat → Int} {Q : Int → Mem → Prop} {a3 : Int} {s : Mem} (h : Inv s) (hx : ∀ j, I32 (xs j)) (hb : 0 ≤ a3 ∧ a3 + 6 ≤ (L : Int) ∧ (L : Int) ≤ 3072) (hk : ∀ v, Inv v → K_law_18 L xs Q (a3 + 6) v) : T_law_898 L xs Q a3 s := by
  obtain ⟨h0, h1, h2⟩ := hb
  exact mw_ce_made _ _ _ (fun r u hq => mw_md_made _ _ _ (fun r2 v hv => ⟨fun _ => hk v hv.2, fun z => absurd hv.1 z⟩) hq) (g_made h)
theorem mw_ce_madeOf {a1 a2 a3 : Int} : MonoW (W_ce_madeOf a1 a2 a3) := fun _ _ _ h hw => wpM_mono (E := E_ce_madeOf) (fun v u q => by obtain ⟨x, e, q⟩ := q; exact ⟨x, e, h x u q⟩) hw
theorem mw_md_madeOf {a1 a2 a3 : Int} : MonoW (W_md_madeOf a1 a2 a3) := fun _ _ _ h hw => wpM_mono (E := E_md_madeOf) (fun v u q => by obtain ⟨x, e, q⟩ := q; exact ⟨x, e, h x u q⟩) hw
theorem k_madeOf {L : Nat} {xs : Nat → Int} {Q : Int → Mem → Prop} {a3 : Int} {s : Mem} (h : Inv s) (hx : ∀ j, I32 (xs j)) (hb : 0 ≤ a3 ∧ a3 + 6 ≤ (L : Int) ∧ (L : Int) ≤ 3072) (hk : ∀ v, Inv v → K_law_18 L xs Q (a3 + 6) v) : T_law_911 L xs Q a3 s := by
  obtain ⟨h0, h1, h2⟩ := hb
  have b1 : 0 ≤ wr (a3 + 1) ∧ wr (a3 + 1) < ((L + 1 : Nat) : Int) - 1 := by rw [wr_id (x := a3 + 1) (by omega) (by omega)]; omega
  have b2 : 0 ≤ wr (a3 + 2) ∧ wr (a3 + 2) < ((L + 1 : Nat) : Int) - 1 := by rw [wr_id (x := a3 + 2) (by omega) (by omega)]; omega
  have b3 : 0 ≤ wr (a3 + 3) ∧ wr (a3 + 3) < ((L + 1 : Nat) : Int) - 1 := by rw [wr_id (x := a3 + 3) (by omega) (by omega)]; omega
  exact ⟨b1, b2, b3, mw_ce_madeOf _ _ _ (fun r u hq => ⟨b1, b2, b3, mw_md_madeOf _ _ _ (fun r2 v hv => ⟨fun _ => hk v hv.2, fun z => absurd hv.1 z⟩) hq⟩) (g_madeOf h (hx _) (hx _) (hx _))⟩
theorem mw_ce_line {a1 a2 a3 : Int} : MonoW (W_ce_line a1 a2 a3) := fun _ _ _ h hw => wpM_mono (E := E_ce_line) (fun v u q => by obtain ⟨x, e, q⟩ := q; exact ⟨x, e, h x u q⟩) hw
theorem mw_md_line {a1 a2 a3 : Int} : MonoW (W_md_line a1 a2 a3) := fun _ _ _ h hw => wpM_mono (E := E_md_line) (fun v u q => by obtain ⟨x, e, q⟩ := q; exact ⟨x, e, h x u q⟩) hw
theorem k_line {L : Nat} {xs : Nat → Int} {Q : Int → Mem → Prop} {a3 : Int} {s : Mem} (h : Inv s) (hx : ∀ j, I32 (xs j)) (hb : 0 ≤ a3 ∧ a3 + 6 ≤ (L : Int) ∧ (L : Int) ≤ 3072) (hk : ∀ v, Inv v → K_law_18 L xs Q (a3 + 6) v) : T_law_954 L xs Q a3 s := by
  obtain ⟨h0, h1, h2⟩ := hb
  have b1 : 0 ≤ wr (a3 + 1) ∧ wr (a3 + 1) < ((L + 1 : Nat) : Int) - 1 := by rw [wr_id (x := a3 + 1) (by omega) (by omega)]; omega
  have b2 : 0 ≤ wr (a3 + 2) ∧ wr (a3 + 2) < ((L + 1 : Nat) : Int) - 1 := by rw [wr_id (x := a3 + 2) (by omega) (by omega)]; omega
  have b3 : 0 ≤ wr (a3 + 3) ∧ wr (a3 + 3) < ((L + 1 : Nat) : Int) - 1 := by rw [wr_id (x := a3 + 3) (by omega) (by omega)]; omega
  exact ⟨b1, b2, b3, mw_ce_line _ _ _ (fun r u hq => ⟨b1, b2, b3, mw_md_line _ _ _ (fun r2 v hv => ⟨fun _ => hk v hv.2, fun z => absurd hv.1 z⟩) hq⟩) (g_line h (hx _) (hx _) (hx _))⟩
theorem mw_ce_level {a1 a2 : Int} : MonoW (W_ce_level a1 a2) := fun _ _ _ h hw => wpM_mono (E := E_ce_level) (fun v u q => by obtain ⟨x, e, q⟩ := q; exact ⟨x, e, h x u q⟩) hw
theorem mw_md_level {a1 a2 : Int} : MonoW (W_md_level a1 a2) := fun _ _ _ h hw => wpM_mono (E := E_md_level) (fun v u q => by obtain ⟨x, e, q⟩ := q; exact ⟨x, e, h x u q⟩) hw
theorem k_level {L : Nat} {xs : Nat → Int} {Q : Int → Mem → Prop} {a3 : Int} {s : Mem} (h : Inv s) (hx : ∀ j, I32 (xs j)) (hb : 0 ≤ a3 ∧ a3 + 6 ≤ (L : Int) ∧ (L : Int) ≤ 3072) (hk : ∀ v, Inv v → K_law_18 L xs Q (a3 + 6) v) : T_law_997 L xs Q a3 s := by
  obtain ⟨h0, h1, h2⟩ := hb
  have b1 : 0 ≤ wr (a3 + 1) ∧ wr (a3 + 1) < ((L + 1 : Nat) : Int) - 1 := by rw [wr_id (x := a3 + 1) (by omega) (by omega)]; omega
  have b2 : 0 ≤ wr (a3 + 2) ∧ wr (a3 + 2) < ((L + 1 : Nat) : Int) - 1 := by rw [wr_id (x := a3 + 2) (by omega) (by omega)]; omega
  exact ⟨b1, b2, mw_ce_level _ _ _ (fun r u hq => ⟨b1, b2, mw_md_level _ _ _ (fun r2 v hv => ⟨fun _ => hk v hv.2, fun z => absurd hv.1 z⟩) hq⟩) (g_level h (hx _) (hx _))⟩
theorem mw_ce_sale {a1 a2 a3 a4 : Int} : MonoW (W_ce_sale a1 a2 a3 a4) := fun _ _ _ h hw => wpM_mono (E := E_ce_sale) (fun v u q => by obtain ⟨x, e, q⟩ := q; exact ⟨x, e, h x u q⟩) hw
theorem mw_md_sale {a1 a2 a3 a4 : Int} : MonoW (W_md_sale a1 a2 a3 a4) := fun _ _ _ h hw => wpM_mono (E := E_md_sale) (fun v u q => by obtain ⟨x, e, q⟩ := q; exact ⟨x, e, h x u q⟩) hw
theorem k_sale {L : Nat} {xs : Nat → Int} {Q : Int → Mem → Prop} {a3 : Int} {s : Mem} (h : Inv s) (hx : ∀ j, I32 (xs j)) (hb : 0 ≤ a3 ∧ a3 + 6 ≤ (L : Int) ∧ (L : Int) ≤ 3072) (hk : ∀ v, Inv v → K_law_18 L xs Q (a3 + 6) v) : T_law_1030 L xs Q a3 s := by
  obtain ⟨h0, h1, h2⟩ := hb
  have b1 : 0 ≤ wr (a3 + 1) ∧ wr (a3 + 1) < ((L + 1 : Nat) : Int) - 1 := by rw [wr_id (x := a3 + 1) (by omega) (by omega)]; omega
  have b2 : 0 ≤ wr (a3 + 2) ∧ wr (a3 + 2) < ((L + 1 : Nat) : Int) - 1 := by rw [wr_id (x := a3 + 2) (by omega) (by omega)]; omega
  have b3 : 0 ≤ wr (a3 + 3) ∧ wr (a3 + 3) < ((L + 1 : Nat) : Int) - 1 := by rw [wr_id (x := a3 + 3) (by omega) (by omega)]; omega
  have b4 : 0 ≤ wr (a3 + 4) ∧ wr (a3 + 4) < ((L + 1 : Nat) : Int) - 1 := by rw [wr_id (x := a3 + 4) (by omega) (by omega)]; omega
  exact ⟨b1, b2, b3, b4, mw_ce_sale _ _ _ (fun r u hq => ⟨b1, b2, b3, b4, mw_md_sale _ _ _ (fun r2 v hv => ⟨fun _ => hk v hv.2, fun z => absurd hv.1 z⟩) hq⟩) (g_sale h (hx _) (hx _) (hx _) (hx _))⟩
theorem mw_ce_roll {a1 a2 a3 a4 : Int} : MonoW (W_ce_roll a1 a2 a3 a4) := fun _ _ _ h hw => wpM_mono (E := E_ce_roll) (fun v u q => by obtain ⟨x, e, q⟩ := q; exact ⟨x, e, h x u q⟩) hw
theorem mw_md_roll {a1 a2 a3 a4 : Int} : MonoW (W_md_roll a1 a2 a3 a4) := fun _ _ _ h hw => wpM_mono (E := E_md_roll) (fun v u q => by obtain ⟨x, e, q⟩ := q; exact ⟨x, e, h x u q⟩) hw
theorem k_roll {L : Nat} {xs : Nat → Int} {Q : Int → Mem → Prop} {a3 : Int} {s : Mem} (h : Inv s) (hx : ∀ j, I32 (xs j)) (hb : 0 ≤ a3 ∧ a3 + 6 ≤ (L : Int) ∧ (L : Int) ≤ 3072) (hk : ∀ v, Inv v → K_law_18 L xs Q (a3 + 6) v) : T_law_1083 L xs Q a3 s := by
  obtain ⟨h0, h1, h2⟩ := hb
  have b1 : 0 ≤ wr (a3 + 1) ∧ wr (a3 + 1) < ((L + 1 : Nat) : Int) - 1 := by rw [wr_id (x := a3 + 1) (by omega) (by omega)]; omega
  have b2 : 0 ≤ wr (a3 + 2) ∧ wr (a3 + 2) < ((L + 1 : Nat) : Int) - 1 := by rw [wr_id (x := a3 + 2) (by omega) (by omega)]; omega
  have b3 : 0 ≤ wr (a3 + 3) ∧ wr (a3 + 3) < ((L + 1 : Nat) : Int) - 1 := by rw [wr_id (x := a3 + 3) (by omega) (by omega)]; omega
  have b4 : 0 ≤ wr (a3 + 4) ∧ wr (a3 + 4) < ((L + 1 : Nat) : Int) - 1 := by rw [wr_id (x := a3 + 4) (by omega) (by omega)]; omega
  exact ⟨b1, b2, b3, b4, mw_ce_roll _ _ _ (fun r u hq => ⟨b1, b2, b3, b4, mw_md_roll _ _ _ (fun r2 v hv => ⟨fun _ => hk v hv.2, fun z => absurd hv.1 z⟩) hq⟩) (g_roll h (hx _) (hx _) (hx _) (hx _))⟩
theorem mw_ce_entry {a1 a2 : Int} : MonoW (W_ce_entry a1 a2) := fun _ _ _ h hw => wpM_mono (E := E_ce_entry) (fun v u q => by obtain ⟨x, e, q⟩ := q; exact ⟨x, e, h x u q⟩) hw
theorem mw_md_entry {a1 a2 : Int} : MonoW (W_md_entry a1 a2) := fun _ _ _ h hw => wpM_mono (E := E_md_entry) (fun v u q => by obtain ⟨x, e, q⟩ := q; exact ⟨x, e, h x u q⟩) hw
theorem k_entry {L : Nat} {xs : Nat → Int} {Q : Int → Mem → Prop} {a3 : Int} {s : Mem} (h : Inv s) (hx : ∀ j, I32 (xs j)) (hb : 0 ≤ a3 ∧ a3 + 6 ≤ (L : Int) ∧ (L : Int) ≤ 3072) (hk : ∀ v, Inv v → K_law_18 L xs Q (a3 + 6) v) : T_law_1136 L xs Q a3 s := by
  obtain ⟨h0, h1, h2⟩ := hb
  have b1 : 0 ≤ wr (a3 + 1) ∧ wr (a3 + 1) < ((L + 1 : Nat) : Int) - 1 := by rw [wr_id (x := a3 + 1) (by omega) (by omega)]; omega
  have b2 : 0 ≤ wr (a3 + 2) ∧ wr (a3 + 2) < ((L + 1 : Nat) : Int) - 1 := by rw [wr_id (x := a3 + 2) (by omega) (by omega)]; omega
  exact ⟨b1, b2, mw_ce_entry _ _ _ (fun r u hq => ⟨b1, b2, mw_md_entry _ _ _ (fun r2 v hv => ⟨fun _ => hk v hv.2, fun z => absurd hv.1 z⟩) hq⟩) (g_entry h (hx _) (hx _))⟩
theorem mw_ce_rod {a1 a2 : Int} : MonoW (W_ce_rod a1 a2) := fun _ _ _ h hw => wpM_mono (E := E_ce_rod) (fun v u q => by obtain ⟨x, e, q⟩ := q; exact ⟨x, e, h x u q⟩) hw
theorem mw_md_rod {a1 a2 : Int} : MonoW (W_md_rod a1 a2) := fun _ _ _ h hw => wpM_mono (E := E_md_rod) (fun v u q => by obtain ⟨x, e, q⟩ := q; exact ⟨x, e, h x u q⟩) hw
theorem k_rod {L : Nat} {xs : Nat → Int} {Q : Int → Mem → Prop} {a3 : Int} {s : Mem} (h : Inv s) (hx : ∀ j, I32 (xs j)) (hb : 0 ≤ a3 ∧ a3 + 6 ≤ (L : Int) ∧ (L : Int) ≤ 3072) (hk : ∀ v, Inv v → K_law_18 L xs Q (a3 + 6) v) : T_law_1169 L xs Q a3 s := by
  obtain ⟨h0, h1, h2⟩ := hb
  have b1 : 0 ≤ wr (a3 + 1) ∧ wr (a3 + 1) < ((L + 1 : Nat) : Int) - 1 := by rw [wr_id (x := a3 + 1) (by omega) (by omega)]; omega
  have b2 : 0 ≤ wr (a3 + 2) ∧ wr (a3 + 2) < ((L + 1 : Nat) : Int) - 1 := by rw [wr_id (x := a3 + 2) (by omega) (by omega)]; omega
  exact ⟨b1, b2, mw_ce_rod _ _ _ (fun r u hq => ⟨b1, b2, mw_md_rod _ _ _ (fun r2 v hv => ⟨fun _ => hk v hv.2, fun z => absurd hv.1 z⟩) hq⟩) (g_rod h (hx _) (hx _))⟩
theorem mw_ce_seed {a1 : Int} : MonoW (W_ce_seed a1) := fun _ _ _ h hw => wpM_mono (E := E_ce_seed) (fun v u q => by obtain ⟨x, e, q⟩ := q; exact ⟨x, e, h x u q⟩) hw
theorem mw_md_seed {a1 : Int} : MonoW (W_md_seed a1) := fun _ _ _ h hw => wpM_mono (E := E_md_seed) (fun v u q => by obtain ⟨x, e, q⟩ := q; exact ⟨x, e, h x u q⟩) hw
theorem k_seed {L : Nat} {xs : Nat → Int} {Q : Int → Mem → Prop} {a3 : Int} {s : Mem} (h : Inv s) (hx : ∀ j, I32 (xs j)) (hb : 0 ≤ a3 ∧ a3 + 6 ≤ (L : Int) ∧ (L : Int) ≤ 3072) (hk : ∀ v, Inv v → K_law_18 L xs Q (a3 + 6) v) : T_law_1202 L xs Q a3 s := by
  obtain ⟨h0, h1, h2⟩ := hb
  have b1 : 0 ≤ wr (a3 + 1) ∧ wr (a3 + 1) < ((L + 1 : Nat) : Int) - 1 := by rw [wr_id (x := a3 + 1) (by omega) (by omega)]; omega
  exact ⟨b1, mw_ce_seed _ _ _ (fun r u hq => ⟨b1, mw_md_seed _ _ _ (fun r2 v hv => ⟨fun _ => hk v hv.2, fun z => absurd hv.1 z⟩) hq⟩) (g_seed h (hx _))⟩
theorem mw_ce_status {a1 : Int} : MonoW (W_ce_status a1) := fun _ _ _ h hw => wpM_mono (E := E_ce_status) (fun v u q => by obtain ⟨x, e, q⟩ := q; exact ⟨x, e, h x u q⟩) hw
theorem mw_md_status {a1 : Int} : MonoW (W_md_status a1) := fun _ _ _ h hw => wpM_mono (E := E_md_status) (fun v u q => by obtain ⟨x, e, q⟩ := q; exact ⟨x, e, h x u q⟩) hw
theorem k_status {L : Nat} {xs : Nat → Int} {Q : Int → Mem → Prop} {a3 : Int} {s : Mem} (h : Inv s) (hx : ∀ j, I32 (xs j)) (hb : 0 ≤ a3 ∧ a3 + 6 ≤ (L : Int) ∧ (L : Int) ≤ 3072) (hk : ∀ v, Inv v → K_law_18 L xs Q (a3 + 6) v) : T_law_1225 L xs Q a3 s := by
  obtain ⟨h0, h1, h2⟩ := hb
  have b1 : 0 ≤ wr (a3 + 1) ∧ wr (a3 + 1) < ((L + 1 : Nat) : Int) - 1 := by rw [wr_id (x := a3 + 1) (by omega) (by omega)]; omega
  exact ⟨b1, mw_ce_status _ _ _ (fun r u hq => ⟨b1, mw_md_status _ _ _ (fun r2 v hv => ⟨fun _ => hk v hv.2, fun z => absurd hv.1 z⟩) hq⟩) (g_status h (hx _))⟩
theorem mw_ce_count {a1 : Int} : MonoW (W_ce_count a1) := fun _ _ _ h hw => wpM_mono (E := E_ce_count) (fun v u q => by obtain ⟨x, e, q⟩ := q; exact ⟨x, e, h x u q⟩) hw
theorem mw_md_count {a1 : Int} : MonoW (W_md_count a1) := fun _ _ _ h hw => wpM_mono (E := E_md_count) (fun v u q => by obtain ⟨x, e, q⟩ := q; exact ⟨x, e, h x u q⟩) hw
theorem k_count {L : Nat} {xs : Nat → Int} {Q : Int → Mem → Prop} {a3 : Int} {s : Mem} (h : Inv s) (hx : ∀ j, I32 (xs j)) (hb : 0 ≤ a3 ∧ a3 + 6 ≤ (L : Int) ∧ (L : Int) ≤ 3072) (hk : ∀ v, Inv v → K_law_18 L xs Q (a3 + 6) v) : T_law_1248 L xs Q a3 s := by
  obtain ⟨h0, h1, h2⟩ := hb
  have b1 : 0 ≤ wr (a3 + 1) ∧ wr (a3 + 1) < ((L + 1 : Nat) : Int) - 1 := by rw [wr_id (x := a3 + 1) (by omega) (by omega)]; omega
  exact ⟨b1, mw_ce_count _ _ _ (fun r u hq => ⟨b1, mw_md_count _ _ _ (fun r2 v hv => ⟨fun _ => hk v hv.2, fun z => absurd hv.1 z⟩) hq⟩) (g_count h (hx _))⟩
theorem mw_ce_image {a1 : Int} : MonoW (W_ce_image a1) := fun _ _ _ h hw => wpM_mono (E := E_ce_image) (fun v u q => by obtain ⟨x, e, q⟩ := q; exact ⟨x, e, h x u q⟩) hw
theorem mw_md_image {a1 : Int} : MonoW (W_md_image a1) := fun _ _ _ h hw => wpM_mono (E := E_md_image) (fun v u q => by obtain ⟨x, e, q⟩ := q; exact ⟨x, e, h x u q⟩) hw
theorem k_image {L : Nat} {xs : Nat → Int} {Q : Int → Mem → Prop} {a3 : Int} {s : Mem} (h : Inv s) (hx : ∀ j, I32 (xs j)) (hb : 0 ≤ a3 ∧ a3 + 6 ≤ (L : Int) ∧ (L : Int) ≤ 3072) (hk : ∀ v, Inv v → K_law_18 L xs Q (a3 + 6) v) : T_law_1271 L xs Q a3 s := by
  obtain ⟨h0, h1, h2⟩ := hb
  have b1 : 0 ≤ wr (a3 + 1) ∧ wr (a3 + 1) < ((L + 1 : Nat) : Int) - 1 := by rw [wr_id (x := a3 + 1) (by omega) (by omega)]; omega
  exact ⟨b1, mw_ce_image _ _ _ (fun r u hq => ⟨b1, mw_md_image _ _ _ (fun r2 v hv => ⟨fun _ => hk v hv.2, fun z => absurd hv.1 z⟩) hq⟩) (g_image h (hx _))⟩
theorem mw_ce_back {a1 : Int} : MonoW (W_ce_back a1) := fun _ _ _ h hw => wpM_mono (E := E_ce_back) (fun v u q => by obtain ⟨x, e, q⟩ := q; exact ⟨x, e, h x u q⟩) hw
theorem mw_md_back {a1 : Int} : MonoW (W_md_back a1) := fun _ _ _ h hw => wpM_mono (E := E_md_back) (fun v u q => by obtain ⟨x, e, q⟩ := q; exact ⟨x, e, h x u q⟩) hw
theorem k_back {L : Nat} {xs : Nat → Int} {Q : Int → Mem → Prop} {a3 : Int} {s : Mem} (h : Inv s) (hx : ∀ j, I32 (xs j)) (hb : 0 ≤ a3 ∧ a3 + 6 ≤ (L : Int) ∧ (L : Int) ≤ 3072) (hk : ∀ v, Inv v → K_law_18 L xs Q (a3 + 6) v) : T_law_1294 L xs Q a3 s := by
  obtain ⟨h0, h1, h2⟩ := hb
  have b1 : 0 ≤ wr (a3 + 1) ∧ wr (a3 + 1) < ((L + 1 : Nat) : Int) - 1 := by rw [wr_id (x := a3 + 1) (by omega) (by omega)]; omega
  exact ⟨b1, mw_ce_back _ _ _ (fun r u hq => ⟨b1, mw_md_back _ _ _ (fun r2 v hv => ⟨fun _ => hk v hv.2, fun z => absurd hv.1 z⟩) hq⟩) (g_back h (hx _))⟩
theorem law_loop {L : Nat} {xs : Nat → Int} {Q : Int → Mem → Prop} (hx : ∀ j, I32 (xs j)) (hL : L ≤ 3072) (hQ : ∀ s, Q 1 s) : ∀ (n : Nat) (i : Int) (s : Mem), 0 ≤ i → i ≤ 4000 → (L : Int) - i < n → Inv s → K_law_18 L xs Q i s := by
  intro n
  induction n with
  | zero =>
    intro i s h0 h1 h2 h
    refine b_law_18 ?_
    unfold T_law_18
    rw [wr_id (x := i) (by omega) (by omega), wr_id (x := (((L + 1 : Nat) : Int) - 1) - 6) (by omega) (by omega)]
    exact ⟨fun _ => hQ s, fun c => absurd (by omega) c⟩
  | succ n ih =>
    intro i s h0 h1 h2 h
    refine b_law_18 ?_
    unfold T_law_18
    rw [wr_id (x := i) (by omega) (by omega), wr_id (x := (((L + 1 : Nat) : Int) - 1) - 6) (by omega) (by omega)]
    refine ⟨fun _ => hQ s, fun c => ⟨by omega, ?_⟩⟩
    have hb : 0 ≤ i ∧ i + 6 ≤ (L : Int) ∧ (L : Int) ≤ 3072 := by omega
    have nx : ∀ v, Inv v → K_law_18 L xs Q (i + 6) v := fun v hv => ih (i + 6) v (by omega) (by omega) (by omega) hv
    exact ⟨⟨fun _ => k_feed h hx hb nx, fun _ => k_end h hx hb nx, fun _ => k_shop h hx hb nx, fun _ => k_rule h hx hb nx, fun _ => k_bale h hx hb nx, fun _ => k_cut h hx hb nx, fun _ => k_tear h hx hb nx, fun _ => k_basket h hx hb nx, fun _ => k_ends h hx hb nx, fun _ => k_out h hx hb nx, fun _ => k_serve h hx hb nx, fun _ => k_day h hx hb nx, fun _ => k_days h hx hb nx, fun _ => k_known h hx hb nx, fun _ => k_all h hx hb nx, fun _ => k_weight h hx hb nx, fun _ => k_which h hx hb nx, fun _ => k_drops h hx hb nx, fun _ => k_lots h hx hb nx, fun _ => k_meet h hx hb nx, fun _ => k_seam h hx hb nx, fun _ => k_made h hx hb nx, fun _ => k_madeOf h hx hb nx, fun _ => k_line h hx hb nx, fun _ => k_level h hx hb nx, fun _ => k_sale h hx hb nx, fun _ => k_roll h hx hb nx, fun _ => k_entry h hx hb nx, fun _ => k_rod h hx hb nx, fun _ => k_seed h hx hb nx, fun _ => k_status h hx hb nx, fun _ => k_count h hx hb nx, fun _ => k_image h hx hb nx, fun _ => k_back h hx hb nx, trivial⟩, fun _ => nx s h⟩
