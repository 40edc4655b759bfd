theorem p_td_knownEighths {n : Nat} {s : Mem} {Q : Int → Mem → Prop} (en : s 4 1 0 = (n : Int)) (hn : n ≤ 9) (h : Q (smL (s 4 0) n) s) : W_td_knownEighths 4 s Q := by
  refine w_td_knownEighths (b_td_knownEighths_0 rfl ?_)
  have loop : ∀ d k : Nat, n - k = d → k ≤ n → K_td_knownEighths_4 Q 4 (smL (s 4 0) k) (k : Int) s := by
    intro d
    induction d with
    | zero =>
      intro k hd hk
      have e : k = n := by omega
      subst e
      refine b_td_knownEighths_4 rfl ?_
      unfold T_td_knownEighths_4 T_td_knownEighths_27
      rw [en, wr_id (x := (k : Int)) (by omega) (by omega)]
      exact ⟨fun _ => h, fun z => by omega⟩
    | succ d ih =>
      intro k hd hk
      refine b_td_knownEighths_4 rfl ?_
      unfold T_td_knownEighths_4
      rw [en, wr_id (x := (n : Int)) (by omega) (by omega), wr_id (x := (k : Int)) (by omega) (by omega)]
      have ih : K_td_knownEighths_4 Q 4 (smL (s 4 0) k + s 4 0 (k : Int)) (((k + 1 : Nat)) : Int) s := ih (k + 1) (by omega) (by omega)
      rw [show ((k + 1 : Nat) : Int) = (k : Int) + 1 by omega] at ih
      exact ⟨fun z => by omega, fun _ => ⟨by omega, ih⟩⟩
  have := loop n 0 (by omega) (by omega)
  exact this
theorem smB_full {f : Int → Int} {n : Nat} : ∀ m : Nat, m ≤ n → smB f (2 ^ n - 1) m = smL f m
  | 0, _ => rfl
  | m + 1, h => by
    show smB f (2 ^ n - 1) m + (if Nat.testBit (2 ^ n - 1) m = true then f (m : Int) else 0) = smL f m + f (m : Int)
    rw [smB_full m (by omega), Nat.testBit_two_pow_sub_one, if_pos (decide_eq_true (by omega))]
theorem smL_bd {f : Int → Int} {B : Int} (hB : 0 ≤ B) : ∀ n : Nat, (∀ k : Nat, k < n → 0 ≤ f (k : Int) ∧ f (k : Int) ≤ B) → 0 ≤ smL f n ∧ smL f n ≤ B * n
  | 0, _ => by
    show 0 ≤ (0 : Int) ∧ (0 : Int) ≤ B * ((0 : Nat) : Int)
    rw [show B * ((0 : Nat) : Int) = 0 from Int.mul_zero B]
    omega
  | n + 1, h => by
    have h1 := smL_bd hB n (fun k hk => h k (by omega))
    have h2 := h n (by omega)
    show 0 ≤ smL f n + f (n : Int) ∧ smL f n + f (n : Int) ≤ B * ((n + 1 : Nat) : Int)
    rw [show ((n + 1 : Nat) : Int) = (n : Int) + 1 by omega, Int.mul_add, Int.mul_one]
    omega
theorem cst_c {E C C' : Nat → Int} {left th : Int} {N : Nat} (h : ∀ x, x < N → C x = C' x) : ∀ x, x < N → cst E C left th x = cst E C' left th x := by
  intro x hx
  have key : ∀ (f a : Nat) (b : Int), sub a x → mnP (cnd E C left th x) x f a b = mnP (cnd E C' left th x) x f a b := by
    intro f
    induction f with
    | zero => exact fun _ _ _ => rfl
    | succ f ih =>
      intro a b hs
      unfold mnP
      have hsl := sub_le hs
      have e : cnd E C left th x a = cnd E C' left th x a := by
        unfold cnd
        rw [h _ (by omega)]
      rw [e, ih _ _ (and_sub _ _)]
  unfold cst
  rw [h 0 (by omega), h x hx, key _ _ _ (sub_rf x)]
theorem cstB_c {E : Nat → Int} {th : Int} {l l' : Int → Int} : ∀ b : Nat, (∀ k : Nat, k < b → l (k : Int) = l' (k : Int)) → cstB E th l b = cstB E th l' b
  | 0, _ => rfl
  | b + 1, h => by
    show cst E (cstB E th l b) (l (b : Int)) th = cst E (cstB E th l' b) (l' (b : Int)) th
    rw [cstB_c b (fun k hk => h k (by omega)), h b (by omega)]
theorem phi_dm {c : Int} (h : 0 ≤ c ∧ c % 1000 ≤ 72) (h2 : c < 1000000) : (0 ≤ phi c ∧ phi c < 100000000) ∧ phi c / 10000 = c / 1000 ∧ phi c % 10000 = c % 1000 := by
  unfold phi
  rw [if_neg (by omega)]
  omega
theorem g_all {s : Mem} (h : Inv s) {a : Int} (ha : I32 a) : Ag s (W_ce_all a) (W_md_all a) := by
  have wa := ha.w
  obtain ⟨b1, b2, b3⟩ := Inv_bal h
  obtain ⟨⟨t1, t2⟩, -⟩ := Inv_sca h
  obtain ⟨⟨⟨k1, k2, k3⟩, k4⟩, -⟩ := id h.1.2.1
  have k1 : s 4 1 0 = s 34 2 15 := k1
  have k2 : 0 ≤ s 34 2 15 := k2
  have k3 : s 34 2 15 ≤ 9 := k3
  have k4 : ∀ k, 0 ≤ k → k < s 34 2 15 → s 4 0 k = s 34 26 k ∧ 1 ≤ s 34 26 k ∧ s 34 26 k ≤ 480 := k4
  obtain ⟨n, en⟩ : ∃ n : Nat, s 34 2 15 = (n : Int) := ⟨(s 34 2 15).toNat, by omega⟩
  obtain ⟨nb, enb⟩ : ∃ nb : Nat, s 34 2 0 = (nb : Int) := ⟨(s 34 2 0).toNat, by omega⟩
  have hn : n ≤ 9 := by omega
  have hp := pow9 hn
  have efB : ∀ x, smB (s 4 0) x n = smB (s 34 26) x n := fun x => smB_f n (fun k hk => (k4 k (by omega) (by omega)).1)
  have ebal : ∀ k : Nat, k < nb → s 3 0 (k : Int) = s 34 3 (k : Int) ∧ 0 ≤ s 34 3 (k : Int) ∧ s 34 3 (k : Int) ≤ 480 := fun k hk => (b3 k (by omega) (by omega)).1
  refine w_ce_all (b_ce_all_0 (p_within wa (b' := 0) (by decide) (c' := 3) (by decide) (zf (fun c => ?_) (fun c => ?_))))
  · have pre : ∀ (u : Mem) (Q : Int → Mem → Prop), u 34 = s 34 → T_md_all_14 Q a u → W_md_all a u Q := fun u Q _ hQ => w_md_all (b_md_all_0 (p_in ha.wl (b' := 0) (by decide) (c' := 3) (by decide) (zf (fun _ => hQ) (fun z => absurd c z))))
    unfold T_ce_all_11 T_ce_all_40 T_ce_all_88 T_ce_all_96 T_ce_all_104
    rw [wa]
    refine ⟨fun c3 => ?_, fun c3 => ?_⟩
    · refine p_kp_work (n := n) (nb := nb) (f := s 4 0) (th := s 3 8 0) (left := s 3 0) (by omega) hn rfl (fun k hk => by have := k4 k (by omega) (by omega); omega) (by omega) (by omega) rfl (by omega) rfl (fun k hk => by have := ebal k hk; omega) (fun t best hbest hF q2 q3 q4 => ?_)
      have t34 : t 34 = s 34 := hF.1 34 (by omega)
      have eE : (fun x : Nat => smB (s 4 0) x n) = fun x : Nat => smB (s 34 26) x n := funext efB
      have eC : cstB (fun x : Nat => smB (s 4 0) x n) (s 3 8 0) (s 3 0) nb = cstB (fun x : Nat => smB (s 34 26) x n) (s 34 2 2) (s 34 3) nb := by
        rw [eE, t1]
        exact cstB_c nb (fun k hk => (ebal k hk).1)
      rw [eC] at hbest q3 q4
      rw [eE] at hbest
      rw [efB] at q2
      have hfM : ∀ k : Nat, k < n → 1 ≤ s 34 26 (k : Int) ∧ s 34 26 (k : Int) ≤ 480 := fun k hk => (k4 k (by omega) (by omega)).2
      have hlt : best < 2 ^ n := by
        rw [hbest]
        exact chs_lt _ _ _ _ (by omega) (by omega)
      have hE1 : ∀ a, 0 < a → a < 2 ^ n → 1 ≤ smB (s 34 26) a n := fun a h0 h1 => by
        have h2 := (smB_bd (f := s 34 26) (x := a) n hfM).1
        have h3 := pcn_pos n h0 h1
        omega
      have hvb := cstB_v (E := fun x : Nat => smB (s 34 26) x n) (th := s 34 2 2) (left := s 34 3) (by omega) hE1 hp.2 nb (by omega) (fun k hk => (ebal k hk).2) best hlt
      have hvb2 := phi_bd hvb (by omega)
      have hok : cstB (fun x : Nat => smB (s 34 26) x n) (s 34 2 2) (s 34 3) nb best < 1000000 := by
        rw [hbest]
        refine chs_ok _ _ _ ?_
        have h0 : ∀ b : Nat, cstB (fun x : Nat => smB (s 34 26) x n) (s 34 2 2) (s 34 3) b 0 = 0 := by
          intro b
          induction b with
          | zero => rfl
          | succ b ih =>
            show cst _ _ _ _ 0 = 0
            unfold cst
            rw [if_pos rfl]
            exact ih
        rw [h0]
        omega
      have hb512 : best < 512 := Nat.lt_of_lt_of_le hlt hp.2
      have hbr : 0 ≤ (best : Int) ∧ (best : Int) < 512 := ⟨Int.natCast_nonneg _, Int.ofNat_lt.mpr hb512⟩
      have hb1024 : best < 1024 := Nat.lt_trans hb512 (by decide)
      have wb : wr (best : Int) = (best : Int) := wr_id (by omega) (by omega)
      have hM : ∀ Q : Int → Mem → Prop, (∀ u, FrJ 34 (fun j => j = 57 ∨ j = 58) t u → u 34 58 (best : Int) = phi (cstB (fun x : Nat => smB (s 34 26) x n) (s 34 2 2) (s 34 3) nb best) → T_md_all_355 Q a (best : Int) u) → W_md_all a t Q := fun Q hQ => by
        refine pre t Q t34 ?_
        unfold T_md_all_14
        rw [wa, t34, en, shl_dec n (by omega)]
        refine ⟨fun _ => p_md_allT (n := n) (nb := nb) (by rw [t34]; exact en) hn (by rw [t34]; exact hfM) (by rw [t34]; exact enb) (by omega) (by rw [t34]; exact t2) (by rw [t34]; exact fun k hk => (ebal k hk).2) (fun u best' hb' _ hFu hu => ?_), fun z => absurd c3 z⟩
        rw [t34] at hb' hu
        rw [← hbest] at hb'
        subst hb'
        exact hQ u hFu hu
      have fin : ∀ u, FrJ 34 (fun j => j = 57 ∨ j = 58) t u → Inv u := fun u hFu => Inv_Mo (Inv_C h (fun o ho => hF.1 o (by omega))) (hFu.mono (fun j q => by unfold kpJ; omega))
      have hpc := pcn_le best 9
      have hdm := phi_dm (c := cstB (fun x : Nat => smB (s 34 26) x n) (s 34 2 2) (s 34 3) nb best) (by rcases hvb with z | ⟨z1, z2, z3⟩ <;> omega) hok
      clear hvb hvb2 hok hlt hE1 hfM hbest
      generalize cstB (fun x : Nat => smB (s 34 26) x n) (s 34 2 2) (s 34 3) nb best = cc at hM q3 q4 hdm
      refine ⟨fun w0 => hM _ (fun u hFu hu => ?_), fun w0 => ⟨fun w1 => hM _ (fun u hFu hu => ?_), fun w1 => hM _ (fun u hFu hu => ?_)⟩⟩
      · unfold T_md_all_355 T_md_all_395
        rw [wa]
        refine br_f (fun z => z w0) (p_md_sumOf (n := n) (by rw [hFu.2 2 (by omega), t34]; exact en) hn hb1024 ⟨?_, fin u hFu⟩)
        rw [hFu.2 26 (by omega), t34, q2]
      · unfold T_md_all_355 T_md_all_367 T_md_all_395
        rw [wa, wb, hu]
        refine br_t w0 (br_f (fun z => z w1) ⟨hbr, ?_, fin u hFu⟩)
        rw [q3, idv_p ⟨hdm.1.1, by omega⟩ (by omega), hdm.2.1]
      · unfold T_md_all_355 T_md_all_367 T_md_all_385 T_md_all_395
        rw [wa, wb, hu]
        refine br_t w0 (br_t w1 ⟨hbr, ?_, fin u hFu⟩)
        rw [q4, irm_p ⟨hdm.1.1, by omega⟩ (by omega), hdm.2.2]
    · refine p_td_knownEighths (n := n) (by omega) hn ?_
      refine p_sh_eighthsLeft rfl b2 b1 ?_
      have hs1 : 0 ≤ smL (s 4 0) n ∧ smL (s 4 0) n ≤ 480 * n := smL_bd (by omega) n (fun k hk => by have := k4 k (by omega) (by omega); omega)
      have hs2 : 0 ≤ smL (s 3 0) (s 34 2 0).toNat ∧ smL (s 3 0) (s 34 2 0).toNat ≤ 480 * (s 34 2 0).toNat := smL_bd (by omega) _ (fun k hk => by have := b3 k (by omega) (by omega); omega)
      have e2 : smL (s 3 0) (s 34 2 0).toNat = smL (s 34 3) (s 34 2 0).toNat := smL_congr (fun k hk => (b3 k (by omega) (by omega)).1.1)
      have e1 : smL (s 4 0) n = smB (s 34 26) (2 ^ n - 1) n := by
        rw [smB_full n (Nat.le_refl _)]
        exact smL_congr (fun k hk => (k4 k (by omega) (by omega)).1)
      rw [e1] at hs1 ⊢
      rw [e2] at hs2 ⊢
      refine pre s _ rfl ?_
      unfold T_md_all_14 T_md_all_51 T_md_all_55
      rw [wa, en, shl_dec n (by omega), show ((2 ^ n : Nat) : Int) - 1 = ((2 ^ n - 1 : Nat) : Int) by omega]
      refine br_f c3 (p_md_sumOf (n := n) en hn (by omega) (p_md_leftInAll b1 ?_))
      generalize hAA : smB (s 34 26) (2 ^ n - 1) n = A at hs1 ⊢
      generalize hBB : smL (s 34 3) (s 34 2 0).toNat = B at hs2 ⊢
      rw [wr_id (x := A) (by omega) (by omega), wr_id (x := B) (by omega) (by omega)]
      refine ⟨fun q => p_md_leftInAll b1 ⟨?_, h⟩, fun q => p_md_sumOf (n := n) en hn (by omega) ⟨?_, h⟩⟩
      · rw [hBB, Int.min_eq_right q]
      · rw [hAA, Int.min_eq_left (by omega)]
  · exact w_md_all (b_md_all_0 (p_in ha.wl (b' := 0) (by decide) (c' := 3) (by decide) (zf (fun z => absurd z c) (fun _ => ⟨rfl, h⟩))))
