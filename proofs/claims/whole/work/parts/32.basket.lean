/-! ===== the BASKET ===== -/
theorem p_sd_putIntoBasket {b n e : Int} {s : Mem} {M : Nat → Int → Int} {Q : Mem → Prop} (hR : RSh (s 3) M) (hb : 0 ≤ b ∧ b < M 0 0) (en : s 2 6 0 = n) (hn : 0 ≤ n ∧ n < 10) (ee : M 1 b = e)
    (h : ∀ t, FrO (fun a => a = 2 ∨ a = 3) s t → (∀ j, ¬ (2 ≤ j ∧ j ≤ 6) → t 2 j = s 2 j) → t 2 2 = uA (s 2 2) n e → t 2 3 = uA (s 2 3) n (s 3 1 b) → t 2 4 = uA (s 2 4) n (s 3 2 b) → t 2 5 = uA (s 2 5) n (cnL b e (clL (s 3 5) (s 3 6) (s 3 7 0).toNat) : Nat) → t 2 6 0 = n + 1 → ShrC (s 3) (t 3) b e → Q t) : W_sd_putIntoBasket 2 b s Q := by
  have h1 := hR.1.1
  obtain ⟨⟨g1, g2, g3⟩, -⟩ := hR.1.2.2 b hb.1 hb.2
  obtain ⟨v1, v2⟩ := RSh_vals hR
  have wb : wr b = b := wr_id (by omega) (by omega)
  have wn : wr n = n := wr_id (by omega) (by omega)
  have e3 : s (2 + 1) 0 b = e := by rw [show 2 + 1 = 3 from rfl, g1, ee]
  refine w_sd_putIntoBasket (b_sd_putIntoBasket_0 rfl ?_)
  unfold T_sd_putIntoBasket_0 T_sd_putIntoBasket_10
  rw [en, wb, wn, e3]
  refine br_t hn.2 ⟨by omega, hn, fun s1 x1 => ⟨by omega, ?_⟩⟩
  obtain ⟨a1, a2, a3⟩ := updM_f x1
  rw [a2 6 (by omega), en, wn]
  refine ⟨hn, fun s2 x2 => ⟨by omega, ?_⟩⟩
  obtain ⟨b1, b2, b3⟩ := updM_f x2
  rw [b2 6 (by omega), a2 6 (by omega), en, wn]
  refine ⟨hn, fun s3 x3 => ?_⟩
  obtain ⟨c1, c2, c3⟩ := updM_f x3
  have q3 : s3 3 = s 3 := (c1 3 (by omega)).trans ((b1 3 (by omega)).trans (a1 3 (by omega)))
  refine p_sh_flawsWithin rfl (by show 0 ≤ s3 3 7 0 ∧ s3 3 7 0 ≤ 16; rw [q3]; exact v1) wb (wr_id (by omega) (by omega)) (by show ∀ k, 0 ≤ k → k < s3 3 7 0 → wr (s3 3 5 k) = s3 3 5 k ∧ wr (s3 3 6 k) = s3 3 6 k; rw [q3]; exact v2) ?_
  rw [c2 6 (by omega), b2 6 (by omega), a2 6 (by omega), en, wn]
  refine ⟨hn, fun s6 x6 s7 x7 => ?_⟩
  obtain ⟨d1, d2, d3⟩ := updM_f x6
  obtain ⟨f1, f2, f3⟩ := updM_f x7
  have q7 : s7 3 = s 3 := (f1 3 (by omega)).trans ((d1 3 (by omega)).trans q3)
  refine p_sh_shorten (o := 3) rfl (by rw [q7]; exact v1) (by omega) (wr_id (by omega) (by omega)) (by rw [q7]; exact v2) (fun t hF h0 h7 hl => ?_)
  have qt : ∀ j, t 2 j = s7 2 j := fun j => by rw [hF.1 2 (by omega)]
  rw [q7] at h0 h7 hl
  refine h t (fun o ho => ?_) (fun j hj => ?_) ?_ ?_ ?_ ?_ ?_ ⟨h0, h7, hl, fun j hj => by rw [hF.2 j hj, q7]⟩
  · rw [hF.1 o (by omega), f1 o (by omega), d1 o (by omega), c1 o (by omega), b1 o (by omega), a1 o (by omega)]
  · rw [qt, f2 j (by omega), d2 j (by omega), c2 j (by omega), b2 j (by omega), a2 j (by omega)]
  · rw [qt, f2 2 (by omega), d2 2 (by omega), c2 2 (by omega), b2 2 (by omega), a3]
  · rw [qt, f2 3 (by omega), d2 3 (by omega), c2 3 (by omega), b3, a2 3 (by omega), a1 3 (by omega)]
  · rw [qt, f2 4 (by omega), d2 4 (by omega), c3, b2 4 (by omega), a2 4 (by omega), b1 3 (by omega), a1 3 (by omega)]
  · rw [qt, f2 5 (by omega), d3, c2 5 (by omega), b2 5 (by omega), a2 5 (by omega), show 2 + 1 = 3 from rfl, q3]
  · rw [qt, f3, uA_s, d2 6 (by omega), c2 6 (by omega), b2 6 (by omega), a2 6 (by omega), en]
theorem g_basket {s : Mem} (h : Inv s) {a : Int} (ha : I32 a) : Ag s (W_ce_basket a) (W_md_basket a) := by
  have wa := ha.w
  obtain ⟨b1, b2, b3⟩ := Inv_bal h
  obtain ⟨-, -, t3, -⟩ := Inv_sca h
  obtain ⟨⟨k1, k2, k3⟩, k4⟩ := Inv_end h
  obtain ⟨w1, w2⟩ := RSh_mvals h.1.1
  have eu : ∀ i, updM s 0 7 i (s 0 7 i + 1) 34 = s 34 := fun i => updM_o _ (by omega)
  refine w_ce_basket (b_ce_basket_0 (p_sh_has rfl wa b2 b1 (zf (fun c1 => ?_) (fun c1 => p_ce_refuse (by omega) ?_))))
  · obtain ⟨e1, e2, e3, e4⟩ := b3 a c1.1 c1.2
    refine p_sh_hasEnd rfl wa (by omega) e1.1 t3.1 t3.2 e1.2 (zf (fun c2 => ?_) (fun c2 => p_ce_refuse (by omega) ?_))
    · unfold T_ce_basket_40
      rw [k1, wr_id (x := s 34 2 12) (by omega) (by omega)]
      refine ⟨fun c3 => ?_, fun c3 => p_ce_refuse (by omega) ?_⟩
      · refine p_sd_putIntoBasket (M := MM s) h.1.1 c1 k1 (by omega) rfl (fun u hF hU h2 h3 h4 h5 h6 hC => ?_)
        have hu : u 34 = s 34 := hF 34 (by omega)
        refine w_md_basket (b_md_basket_0 (p_md_isBale ha (by rw [hu]; exact b1) ?_))
        rw [hu]
        refine zf (fun _ => p_md_isEnd wa (by omega) (by rw [hu]; exact t3.2) (by rw [hu]; exact e1.2) ?_) (fun z => absurd c1 z)
        rw [hu]
        refine zf (fun _ => ?_) (fun z => absurd c2 z)
        have wn : wr (s 34 2 12) = s 34 2 12 := wr_id (by omega) (by omega)
        unfold T_md_basket_28 T_md_basket_46
        rw [hu, wn, wa]
        refine br_t (by omega) ⟨by omega, by omega, fun s1 x1 => ⟨by omega, by omega, fun s2 x2 => ⟨by omega, by omega, fun s3 x3 => ?_⟩⟩⟩
        obtain ⟨m1, m2, m3⟩ := updM_f x1
        obtain ⟨n1, n2, n3⟩ := updM_f x2
        obtain ⟨o1, o2, o3⟩ := updM_f x3
        have r3 : ∀ j, ¬ (22 ≤ j ∧ j ≤ 24) → s3 34 j = s 34 j := fun j hj => by rw [o2 j (by omega), n2 j (by omega), m2 j (by omega), hu]
        refine p_md_flawsIn (by rw [r3 2 (by omega)]; exact w1) wa (by omega) (by rw [r3 2 (by omega), r3 7 (by omega), r3 8 (by omega)]; exact w2) ⟨by omega, fun s6 x6 => ?_⟩
        obtain ⟨p1, p2, p3⟩ := updM_f x6
        have r6 : ∀ j, ¬ (22 ≤ j ∧ j ≤ 25) → s6 34 j = s 34 j := fun j hj => by rw [p2 j (by omega), r3 j (by omega)]
        have e6 : ∀ x, ¬ (10 ≤ x ∧ x ≤ 13) → MM s6 x = MM s x := fun x hx => r6 _ (by unfold mfld; split <;> omega)
        have hR6 : RSh (s 3) (MM s6) := RSh_u h.1.1 (fun k _ _ => by rw [e6 0 (by omega)]) (fun x x1 x2 => e6 x (by omega))
        refine ⟨by omega, p_md_takes0M hR6 (by omega) (by rw [r6 3 (by omega)]; omega) (fun s7 hF7 hS7 s8 x8 => ?_)⟩
        obtain ⟨y1, y2, y3⟩ := updM_f x8
        have h72 : s7 34 2 = s 34 2 := by rw [hF7.2 2 (by omega), r6 2 (by omega)]
        rw [h72] at y3
        have r8 : ∀ j, ¬ (j = 2 ∨ j = 3 ∨ j = 8 ∨ (22 ≤ j ∧ j ≤ 25)) → s8 34 j = s 34 j := fun j hj => by rw [y2 j (by omega), hF7.2 j (by omega), r6 j (by omega)]
        have v2 : ∀ x, ¬ x = 12 → s8 34 2 x = s 34 2 x := fun x hx => by rw [y3, uA_n _ hx]
        have q2 : s8 2 = u 2 := by rw [y1 2 (by omega), hF7.1 2 (by omega), p1 2 (by omega), o1 2 (by omega), n1 2 (by omega), m1 2 (by omega)]
        have q3 : s8 3 = u 3 := by rw [y1 3 (by omega), hF7.1 3 (by omega), p1 3 (by omega), o1 3 (by omega), n1 3 (by omega), m1 3 (by omega)]
        have z22 : s8 34 22 = uA (s 34 22) (s 34 2 12) (s 34 3 a) := by rw [y2 22 (by omega), hF7.2 22 (by omega), p2 22 (by omega), o2 22 (by omega), n2 22 (by omega), m3, hu]
        have z23 : s8 34 23 = uA (s 34 23) (s 34 2 12) (s 34 4 a) := by rw [y2 23 (by omega), hF7.2 23 (by omega), p2 23 (by omega), o2 23 (by omega), n3, m2 23 (by omega), m2 4 (by omega), hu]
        have z24 : s8 34 24 = uA (s 34 24) (s 34 2 12) (s 34 5 a) := by rw [y2 24 (by omega), hF7.2 24 (by omega), p2 24 (by omega), o3, n2 24 (by omega), m2 24 (by omega), n2 5 (by omega), m2 5 (by omega), hu]
        have z25 : s8 34 25 = uA (s 34 25) (s 34 2 12) (cnL a 480 (flL (s 34 7) (s 34 8) (s 34 2 1).toNat) : Nat) := by rw [y2 25 (by omega), hF7.2 25 (by omega), p3, r3 25 (by omega), r3 7 (by omega), r3 8 (by omega), r3 2 (by omega)]
        have e8 : s8 34 2 12 = s 34 2 12 + 1 := by rw [y3, uA_s]
        have ecn : cnL a (s 34 3 a) (clL (s 3 5) (s 3 6) (s 3 7 0).toNat) = cnL a 480 (flL (s 34 7) (s 34 8) (s 34 2 1).toNat) := by
          rw [← (Inv_flw h).2.2.1]
          refine cnL_eq fun q hq q1 => ?_
          obtain ⟨k, k0, k1, rfl⟩ := of_mem_clL hq
          have x2 := Flw_wr h k k0 (by have := (Inv_flw h).1; omega)
          have q1 : s 3 5 k = a := q1
          rw [q1] at x2
          show s 3 6 k < s 34 3 a ↔ s 3 6 k < 480
          omega
        refine ⟨by rw [h6, e8], Inv_std h (fun o ho => ?_) (fun j _ hj => r8 j hj) (fun x hx => v2 x (by omega)) ?_ ?_ ?_⟩
        · rw [y1 o (by omega), hF7.1 o (by omega), p1 o (by omega), o1 o (by omega), n1 o (by omega), m1 o (by omega), hF o (by omega)]
        · rw [q3]
          rw [r6 3 (by omega)] at hS7
          refine RSh_u (RSh_shr hR6 hC (show ShrM (MM s6) (MM s7) a (MM s 1 a) from hS7) (by rw [e6 0 (by omega)]; exact c1) ?_) (fun k k0 k1 => ?_) (fun x x1 x2 => ?_)
          · rw [e6 1 (by omega)]
            show 0 ≤ s 34 3 a ∧ s 34 3 a ≤ s 34 3 a
            omega
          · show s8 34 2 k = s7 34 2 k
            rw [v2 k (by omega), h72]
          · show s8 34 (mfld x) = s7 34 (mfld x)
            exact y2 _ (by unfold mfld; split <;> omega)
        · rw [q2]
          exact Std_c h.1.2.2.1 (fun k hk => v2 k (by omega)) (fun j j0 j1 => hU j (by omega))
        · rw [q2]
          refine ⟨⟨h6.trans e8.symm, ?_⟩, fun k k0 kk => ?_⟩
          · show 0 ≤ s8 34 2 12 ∧ s8 34 2 12 ≤ 10
            omega
          · have kk : k < s8 34 2 12 := kk
            show (u 2 2 k = s8 34 22 k ∧ 1 ≤ s8 34 22 k ∧ s8 34 22 k ≤ 80) ∧ (u 2 3 k = s8 34 23 k ∧ 1 ≤ s8 34 23 k ∧ s8 34 23 k ≤ 99) ∧ (u 2 4 k = s8 34 24 k ∧ 0 ≤ s8 34 24 k ∧ s8 34 24 k ≤ 9) ∧ u 2 5 k = s8 34 25 k
            rw [h2, h3, h4, h5, z22, z23, z24, z25]
            by_cases q : k = s 34 2 12
            · rw [uA_e _ q, uA_e _ q, uA_e _ q, uA_e _ q, uA_e _ q, uA_e _ q, uA_e _ q, uA_e _ q]
              have ecn2 : cnL a (MM s 1 a) (clL (s 3 5) (s 3 6) (s 3 7 0).toNat) = cnL a 480 (flL (s 34 7) (s 34 8) (s 34 2 1).toNat) := ecn
              exact ⟨⟨rfl, by omega⟩, e2, e3, by rw [ecn2]⟩
            · rw [uA_n _ q, uA_n _ q, uA_n _ q, uA_n _ q, uA_n _ q, uA_n _ q, uA_n _ q, uA_n _ q]
              exact k4 k k0 (by omega)
      · refine w_md_basket (b_md_basket_0 (p_md_isBale ha (by rw [eu]; exact b1) ?_))
        rw [eu]
        refine zf (fun _ => p_md_isEnd wa (by omega) (by rw [eu]; exact t3.2) (by rw [eu]; exact e1.2) ?_) (fun z => absurd c1 z)
        rw [eu]
        refine zf (fun _ => ?_) (fun z => absurd c2 z)
        unfold T_md_basket_28
        rw [eu, wr_id (x := s 34 2 12) (by omega) (by omega)]
        exact br_f (by omega) (p_md_refuses (by omega) (both_refuse h (by omega)))
    · refine w_md_basket (b_md_basket_0 (p_md_isBale ha (by rw [eu]; exact b1) ?_))
      rw [eu]
      refine zf (fun _ => p_md_isEnd wa (by omega) (by rw [eu]; exact t3.2) (by rw [eu]; exact e1.2) ?_) (fun z => absurd c1 z)
      rw [eu]
      exact zf (fun z => absurd z c2) (fun _ => p_md_refuses (by omega) (both_refuse h (by omega)))
  · refine w_md_basket (b_md_basket_0 (p_md_isBale ha (by rw [eu]; exact b1) ?_))
    rw [eu]
    exact zf (fun z => absurd z c1) (fun _ => p_md_refuses (by omega) (both_refuse h (by omega)))
