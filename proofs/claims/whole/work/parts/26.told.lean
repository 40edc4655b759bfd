theorem Inv_told {s t : Mem} (h : Inv s) (ho : ∀ o, ¬ (o = 4 ∨ o = 34) → t o = s o) (hj : ∀ j, ¬ (j = 2 ∨ (26 ≤ j ∧ j ≤ 31)) → t 34 j = s 34 j) (e0 : ∀ k, ¬ (k = 15 ∨ k = 16 ∨ k = 17) → t 34 2 k = s 34 2 k) (hT : RTo (t 4) (MM t)) : Inv t :=
  Inv_main h (fun o q => ho o (by omega)) (fun j _ q => hj j (by omega)) (RSm_tol h.1 (ho 3 (by omega)) (ho 2 (by omega)) (fun j _ q => hj j (by omega)) e0 hT)
/-- what a store is made of behind one write -/
theorem updM_f {s t : Mem} {o j : Nat} {i v : Int} (h : t = updM s o j i v) : (∀ o', ¬ o' = o → t o' = s o') ∧ (∀ j', ¬ j' = j → t o j' = s o j') ∧ t o j = uA (s o j) i v := by
  subst h
  exact ⟨fun _ q => updM_o s q, fun _ q => updM_j s q, updM_s s⟩
theorem uA_e (f : Int → Int) {i v k : Int} (h : k = i) : uA f i v k = v := if_pos h
theorem RTo_known {s t : Mem} (h : RTo (s 4) (MM s)) (kp a : Int) (hk : 0 ≤ kp ∧ kp ≤ 9) (h4 : ∀ j, ¬ (j = 0 ∨ j = 1) → t 4 j = s 4 j) (h41 : t 4 1 0 = kp) (hM : ∀ j, ¬ (j = 2 ∨ j = 26) → t 34 j = s 34 j) (h0 : ∀ k, ¬ k = 15 → t 34 2 k = s 34 2 k) (h15 : t 34 2 15 = kp) (hv : ∀ k, 0 ≤ k → k < kp → t 4 0 k = t 34 26 k ∧ 1 ≤ t 34 26 k ∧ t 34 26 k ≤ 480) : RTo (t 4) (MM t) := by
  obtain ⟨d1, d2, d3, d4⟩ := h
  have mj : ∀ x, ¬ (x = 0 ∨ x = 14) → MM t x = MM s x := fun x hx => hM _ (fun q => hx (q.elim (fun q => Or.inl (mfld_inj (q.trans (show (2 : Nat) = mfld 0 from rfl)))) (fun q => Or.inr (mfld_inj (q.trans (show (26 : Nat) = mfld 14 from rfl))))))
  refine ⟨⟨⟨h41.trans h15.symm, ?_⟩, fun k k0 k1 => ?_⟩, Wei_c d2 (mj 15 (by omega)) (h4 2 (by omega)), Lev_c d3 (h0 16 (by omega)) (mj 16 (by omega)) (mj 17 (by omega)) (fun j _ _ => h4 j (by omega)), Boo_c d4 (h0 17 (by omega)) (mj 18 (by omega)) (mj 19 (by omega)) (fun j _ _ => h4 j (by omega))⟩
  · show 0 ≤ t 34 2 15 ∧ t 34 2 15 ≤ 9
    omega
  · have k1 : k < t 34 2 15 := k1
    exact hv k k0 (by omega)
theorem g_known {s : Mem} (h : Inv s) {a : Int} (ha : I32 a) : Ag s (W_ce_known a) (W_md_known a) := by
  have wa := ha.w
  obtain ⟨⟨⟨k1, k2, k3⟩, k4⟩, -⟩ := id h.1.2.1
  have k1 : s 4 1 0 = s 34 2 15 := k1
  have k2 : 0 ≤ s 34 2 15 := k2
  have k3 : s 34 2 15 ≤ 9 := k3
  have wk : wr (s 34 2 15) = s 34 2 15 := wr_id (by omega) (by omega)
  refine w_ce_known (b_ce_known_0 ?_)
  unfold T_ce_known_0
  rw [wa]
  refine ⟨fun c => p_within wa (b' := 1) (by decide) (c' := 480) (by decide) (zf (fun c1 => ?_) (fun c1 => p_ce_refuse (by omega) ?_)), fun c => ?_⟩
  · unfold T_ce_known_36
    rw [k1, wk]
    refine ⟨fun c2 => ?_, fun c2 => p_ce_refuse (by omega) ?_⟩
    · unfold T_ce_known_51
      rw [k1, wk]
      refine ⟨⟨by omega, by omega⟩, fun s1 e1 s2 e2 => ?_⟩
      obtain ⟨a1, a2, a3⟩ := updM_f e1
      obtain ⟨b1, b2, b3⟩ := updM_f e2
      have q2 : s2 34 = s 34 := (b1 34 (by omega)).trans (a1 34 (by omega))
      refine w_md_known (b_md_known_0 ?_)
      unfold T_md_known_0
      rw [wa]
      refine br_t c (p_in ha.wl (b' := 1) (by decide) (c' := 480) (by decide) (zf (fun _ => ?_) (fun z => absurd c1 z)))
      unfold T_md_known_32 T_md_known_50
      rw [q2, wk]
      refine br_t (by omega) ⟨⟨by omega, by omega⟩, fun s3 e3 s4 e4 => ?_⟩
      obtain ⟨x1, x2, x3⟩ := updM_f e3
      obtain ⟨y1, y2, y3⟩ := updM_f e4
      rw [x2 2 (by omega), q2] at y3
      rw [q2] at x3
      rw [a2 1 (by omega), k1] at b3
      have r4 : s4 4 = s2 4 := (y1 4 (by omega)).trans (x1 4 (by omega))
      have r41 : s2 4 1 0 = s 34 2 15 + 1 := by rw [b3, uA_s]
      have r15 : s4 34 2 15 = s 34 2 15 + 1 := by rw [y3, uA_s]
      refine ⟨by rw [r41, r15], Inv_told h (fun o ho => ?_) (fun j hj => ?_) (fun k hk => by rw [y3, uA_n _ (by omega)]) (RTo_known h.1.2.1 (s 34 2 15 + 1) a (by omega) (fun j hj => ?_) (by rw [r4, r41]) (fun j hj => ?_) (fun k hk => by rw [y3, uA_n _ hk]) r15 (fun k k0 kk => ?_))⟩
      · rw [y1 o (by omega), x1 o (by omega), b1 o (by omega), a1 o (by omega)]
      · rw [y2 j (by omega), x2 j (by omega), q2]
      · rw [r4, b2 j (by omega), a2 j (by omega)]
      · rw [y2 j (by omega), x2 j (by omega), q2]
      · rw [r4, b2 0 (by omega), a3, y2 26 (by omega), x3]
        by_cases q : k = s 34 2 15
        · rw [uA_e _ q, uA_e _ q]
          exact ⟨rfl, c1⟩
        · rw [uA_n _ q, uA_n _ q]
          exact k4 k k0 (show k < s 34 2 15 by omega)
    · refine w_md_known (b_md_known_0 ?_)
      unfold T_md_known_0
      rw [wa]
      refine br_t c (p_in ha.wl (b' := 1) (by decide) (c' := 480) (by decide) (zf (fun _ => ?_) (fun z => absurd c1 z)))
      unfold T_md_known_32
      rw [updM_o _ (by omega), wk]
      exact br_f (by omega) (p_md_refuses (by omega) (both_refuse h (by omega)))
  · refine w_md_known (b_md_known_0 ?_)
    unfold T_md_known_0
    rw [wa]
    exact br_t c (p_in ha.wl (b' := 1) (by decide) (c' := 480) (by decide) (zf (fun z => absurd z c1) (fun _ => p_md_refuses (by omega) (both_refuse h (by omega)))))
  · intro s1 e1
    obtain ⟨a1, a2, a3⟩ := updM_f e1
    refine w_md_known (b_md_known_0 ?_)
    unfold T_md_known_0
    rw [wa]
    refine br_f c (fun s2 e2 => ?_)
    obtain ⟨b1, b2, b3⟩ := updM_f e2
    have q2 : s1 34 = s 34 := a1 34 (by omega)
    rw [q2] at b3
    refine ⟨rfl, Inv_told h (fun o ho => by rw [b1 o (by omega), a1 o (by omega)]) (fun j hj => by rw [b2 j (by omega), q2]) (fun k hk => by rw [b3, uA_n _ (by omega)]) (RTo_known h.1.2.1 0 0 (by omega) (fun j hj => by rw [b1 4 (by omega), a2 j (by omega)]) (by rw [b1 4 (by omega), a3, uA_s]) (fun j hj => by rw [b2 j (by omega), q2]) (fun k hk => by rw [b3, uA_n _ hk]) (by rw [b3, uA_s]) (fun k k0 k1 => absurd k1 (by omega)))⟩
theorem RTo_level {s t : Mem} (h : RTo (s 4) (MM s)) (kp : Int) (hk : 0 ≤ kp ∧ kp ≤ 5) (h4 : ∀ j, ¬ (j = 3 ∨ j = 4 ∨ j = 5) → t 4 j = s 4 j) (h41 : t 4 5 0 = kp) (hM : ∀ j, ¬ (j = 2 ∨ j = 28 ∨ j = 29) → t 34 j = s 34 j) (h0 : ∀ k, ¬ k = 16 → t 34 2 k = s 34 2 k) (h15 : t 34 2 16 = kp) (hv : ∀ k, 0 ≤ k → k < kp → (t 4 3 k = t 34 28 k ∧ 1 ≤ t 34 28 k ∧ t 34 28 k ≤ 99) ∧ (t 4 4 k = t 34 29 k ∧ 0 ≤ t 34 29 k ∧ t 34 29 k ≤ 99)) : RTo (t 4) (MM t) := by
  obtain ⟨d1, d2, d3, d4⟩ := h
  have mj : ∀ x, ¬ (x = 0 ∨ x = 16 ∨ x = 17) → MM t x = MM s x := fun x hx => hM _ (by
    rintro (q | q | q)
    · exact hx (Or.inl (mfld_inj (q.trans (show (2 : Nat) = mfld 0 from rfl))))
    · exact hx (Or.inr (Or.inl (mfld_inj (q.trans (show (28 : Nat) = mfld 16 from rfl)))))
    · exact hx (Or.inr (Or.inr (mfld_inj (q.trans (show (29 : Nat) = mfld 17 from rfl))))))
  refine ⟨Kno_c d1 (h0 15 (by omega)) (mj 14 (by omega)) (fun j _ => h4 j (by omega)), Wei_c d2 (mj 15 (by omega)) (h4 2 (by omega)), ⟨⟨h41.trans h15.symm, ?_⟩, fun k k0 k1 => ?_⟩, Boo_c d4 (h0 17 (by omega)) (mj 18 (by omega)) (mj 19 (by omega)) (fun j _ _ => h4 j (by omega))⟩
  · show 0 ≤ t 34 2 16 ∧ t 34 2 16 ≤ 5
    omega
  · have k1 : k < t 34 2 16 := k1
    exact hv k k0 (by omega)
theorem g_level {s : Mem} (h : Inv s) {a b : Int} (ha : I32 a) (hb : I32 b) : Ag s (W_ce_level a b) (W_md_level a b) := by
  have wa := ha.w
  have wb := hb.w
  obtain ⟨-, -, ⟨⟨k1, k2, k3⟩, k4⟩, -⟩ := id h.1.2.1
  have k1 : s 4 5 0 = s 34 2 16 := k1
  have k2 : 0 ≤ s 34 2 16 := k2
  have k3 : s 34 2 16 ≤ 5 := k3
  have wk : wr (s 34 2 16) = s 34 2 16 := wr_id (by omega) (by omega)
  have rf : ¬ a = 0 → ¬ ((1 ≤ a ∧ a ≤ 99) ∧ (0 ≤ b ∧ b ≤ 99)) → W_ce_refuse 0 s (fun r u => W_md_level a b u (fun r2 v => wr r = wr r2 ∧ Inv v)) := fun c0 c => by
    refine p_ce_refuse (by omega) (w_md_level (b_md_level_0 ?_))
    unfold T_md_level_0
    rw [wa]
    refine br_t c0 (p_in ha.wl (b' := 1) (by decide) (c' := 99) (by decide) (zt (fun c1 => p_in hb.wl (b' := 0) (by decide) (c' := 99) (by decide) (zf (fun c2 => absurd ⟨c1, c2⟩ c) (fun _ => p_md_refuses (by omega) (both_refuse h (by omega))))) (fun _ => p_md_refuses (by omega) (both_refuse h (by omega)))))
  refine w_ce_level (b_ce_level_0 ?_)
  unfold T_ce_level_0
  rw [wa]
  refine ⟨fun c => p_within wa (b' := 1) (by decide) (c' := 99) (by decide) (zt (fun c1 => p_within wb (b' := 0) (by decide) (c' := 99) (by decide) (zf (fun c2 => ?_) (fun c2 => rf c (fun z => c2 z.2)))) (fun c1 => rf c (fun z => c1 z.1))), fun c => ?_⟩
  · unfold T_ce_level_45
    rw [k1, wk]
    refine ⟨fun c3 => ?_, fun c3 => p_ce_refuse (by omega) ?_⟩
    · unfold T_ce_level_59
      rw [k1, wk]
      refine ⟨⟨by omega, by omega⟩, fun s1 e1 => ?_⟩
      obtain ⟨a1, a2, a3⟩ := updM_f e1
      rw [a2 5 (by omega), k1, wk]
      refine ⟨⟨by omega, by omega⟩, fun s2 e2 s3 e3 => ?_⟩
      obtain ⟨b1, b2, b3⟩ := updM_f e2
      obtain ⟨m1, m2, m3⟩ := updM_f e3
      have q2 : s3 34 = s 34 := (m1 34 (by omega)).trans ((b1 34 (by omega)).trans (a1 34 (by omega)))
      rw [a2 4 (by omega)] at b3
      rw [b2 5 (by omega), a2 5 (by omega), k1] at m3
      refine w_md_level (b_md_level_0 ?_)
      unfold T_md_level_0
      rw [wa]
      refine br_t c (p_in ha.wl (b' := 1) (by decide) (c' := 99) (by decide) (zt (fun _ => p_in hb.wl (b' := 0) (by decide) (c' := 99) (by decide) (zf (fun _ => ?_) (fun z => absurd c2 z))) (fun z => absurd c1 z)))
      unfold T_md_level_44 T_md_level_61
      rw [q2, wk]
      refine br_t (by omega) ⟨⟨by omega, by omega⟩, fun s4 e4 => ?_⟩
      obtain ⟨x1, x2, x3⟩ := updM_f e4
      rw [x2 2 (by omega), q2, wk]
      refine ⟨⟨by omega, by omega⟩, fun s5 e5 s6 e6 => ?_⟩
      obtain ⟨y1, y2, y3⟩ := updM_f e5
      obtain ⟨z1, z2, z3⟩ := updM_f e6
      rw [q2] at x3
      rw [x2 29 (by omega), q2] at y3
      rw [y2 2 (by omega), x2 2 (by omega), q2] at z3
      have r4 : s6 4 = s3 4 := (z1 4 (by omega)).trans ((y1 4 (by omega)).trans (x1 4 (by omega)))
      have r41 : s3 4 5 0 = s 34 2 16 + 1 := by rw [m3, uA_s]
      have r15 : s6 34 2 16 = s 34 2 16 + 1 := by rw [z3, uA_s]
      refine ⟨by rw [r41, r15], Inv_told h (fun o ho => ?_) (fun j hj => ?_) (fun k hk => by rw [z3, uA_n _ (by omega)]) (RTo_level h.1.2.1 (s 34 2 16 + 1) (by omega) (fun j hj => ?_) (by rw [r4, r41]) (fun j hj => ?_) (fun k hk => by rw [z3, uA_n _ hk]) r15 (fun k k0 kk => ?_))⟩
      · rw [z1 o (by omega), y1 o (by omega), x1 o (by omega), m1 o (by omega), b1 o (by omega), a1 o (by omega)]
      · rw [z2 j (by omega), y2 j (by omega), x2 j (by omega), q2]
      · rw [r4, m2 j (by omega), b2 j (by omega), a2 j (by omega)]
      · rw [z2 j (by omega), y2 j (by omega), x2 j (by omega), q2]
      · rw [r4, m2 3 (by omega), b2 3 (by omega), a3, m2 4 (by omega), b3, z2 28 (by omega), y2 28 (by omega), x3, z2 29 (by omega), y3]
        by_cases q : k = s 34 2 16
        · rw [uA_e _ q, uA_e _ q, uA_e _ q, uA_e _ q]
          exact ⟨⟨rfl, c1⟩, rfl, c2⟩
        · rw [uA_n _ q, uA_n _ q, uA_n _ q, uA_n _ q]
          exact k4 k k0 (show k < s 34 2 16 by omega)
    · refine w_md_level (b_md_level_0 ?_)
      unfold T_md_level_0
      rw [wa]
      refine br_t c (p_in ha.wl (b' := 1) (by decide) (c' := 99) (by decide) (zt (fun _ => p_in hb.wl (b' := 0) (by decide) (c' := 99) (by decide) (zf (fun _ => ?_) (fun z => absurd c2 z))) (fun z => absurd c1 z)))
      unfold T_md_level_44
      rw [updM_o _ (by omega), wk]
      exact br_f (by omega) (p_md_refuses (by omega) (both_refuse h (by omega)))
  · intro s1 e1
    obtain ⟨a1, a2, a3⟩ := updM_f e1
    refine w_md_level (b_md_level_0 ?_)
    unfold T_md_level_0
    rw [wa]
    refine br_f c (fun s2 e2 => ?_)
    obtain ⟨b1, b2, b3⟩ := updM_f e2
    have q2 : s1 34 = s 34 := a1 34 (by omega)
    rw [q2] at b3
    refine ⟨rfl, Inv_told h (fun o ho => by rw [b1 o (by omega), a1 o (by omega)]) (fun j hj => by rw [b2 j (by omega), q2]) (fun k hk => by rw [b3, uA_n _ (by omega)]) (RTo_level h.1.2.1 0 (by omega) (fun j hj => by rw [b1 4 (by omega), a2 j (by omega)]) (by rw [b1 4 (by omega), a3, uA_s]) (fun j hj => by rw [b2 j (by omega), q2]) (fun k hk => by rw [b3, uA_n _ hk]) (by rw [b3, uA_s]) (fun k k0 k1 => absurd k1 (by omega)))⟩
