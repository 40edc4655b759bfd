/-! ===== OUT of the BASKET, the BOOKS, the ROD ===== -/
theorem p_sd_takeOutOfBasket {o : Nat} {e n : Int} {s : Mem} {Q : Int → Mem → Prop} (ho : cls o = 7) (en : s o 6 0 = n) (hn : 0 ≤ n ∧ n ≤ 10) (he : 0 ≤ e ∧ e < n)
    (h : ∀ t, FrJ o (fun j => 2 ≤ j ∧ j ≤ 6) s t → t o 6 0 = n - 1 → (∀ j, 2 ≤ j → j ≤ 5 → ∀ k, t o j k = if e ≤ k ∧ k < n - 1 then s o j (k + 1) else s o j k) → Q (s o 2 e) t) : W_sd_takeOutOfBasket o e s Q := by
  refine w_sd_takeOutOfBasket (b_sd_takeOutOfBasket_0 ho ?_)
  unfold T_sd_takeOutOfBasket_0
  rw [wr_id (x := e) (by omega) (by omega)]
  refine ⟨by omega, ?_⟩
  have loop : ∀ i : Int, ∀ t, e ≤ i → i ≤ n - 1 → FrJ o (fun j => 2 ≤ j ∧ j ≤ 5) s t → (∀ j, 2 ≤ j → j ≤ 5 → ∀ k, t o j k = if e ≤ k ∧ k < i then s o j (k + 1) else s o j k) → K_sd_takeOutOfBasket_9 Q o (s o 2 e) i t := by
    refine fun i => ind_up (P := fun i => ∀ t, e ≤ i → i ≤ n - 1 → FrJ o (fun j => 2 ≤ j ∧ j ≤ 5) s t → (∀ j, 2 ≤ j → j ≤ 5 → ∀ k, t o j k = if e ≤ k ∧ k < i then s o j (k + 1) else s o j k) → K_sd_takeOutOfBasket_9 Q o (s o 2 e) i t) (n - 1) (fun i ih t h0 h1 hF hv => ?_) i
    refine b_sd_takeOutOfBasket_9 ho ?_
    unfold T_sd_takeOutOfBasket_9 T_sd_takeOutOfBasket_81
    have e6 : t o 6 0 = n := by rw [hF.2 6 (by omega), en]
    rw [e6, wr_id (x := n) (by omega) (by omega), wr_id (x := i) (by omega) (by omega), wr_id (x := i + 1) (by omega) (by omega)]
    refine ⟨fun c => ?_, fun c => ⟨by omega, by omega, fun s2 x2 => ⟨by omega, by omega, fun s3 x3 => ⟨by omega, by omega, fun s4 x4 => ⟨by omega, by omega, fun s5 x5 => ?_⟩⟩⟩⟩⟩
    · intro s1 x1
      obtain ⟨a1, a2, a3⟩ := updM_f x1
      refine h s1 ⟨fun o' q => by rw [a1 o' q, hF.1 o' q], fun j q => by rw [a2 j (by omega), hF.2 j (by omega)]⟩ (by rw [a3, uA_s]) (fun j j0 j1 k => ?_)
      rw [a2 j (by omega), hv j j0 j1 k, show i = n - 1 by omega]
    · obtain ⟨b1, b2, b3⟩ := updM_f x2
      obtain ⟨c1, c2, c3⟩ := updM_f x3
      obtain ⟨d1, d2, d3⟩ := updM_f x4
      obtain ⟨f1, f2, f3⟩ := updM_f x5
      have all : ∀ j, 2 ≤ j → j ≤ 5 → s5 o j = uA (t o j) i (t o j (i + 1)) := fun j j0 j1 => by
        rcases (show j = 2 ∨ j = 3 ∨ j = 4 ∨ j = 5 by omega) with q | q | q | q
        · rw [q, f2 2 (by omega), d2 2 (by omega), c2 2 (by omega), b3]
        · rw [q, f2 3 (by omega), d2 3 (by omega), c3, b2 3 (by omega)]
        · rw [q, f2 4 (by omega), d3, c2 4 (by omega), b2 4 (by omega)]
        · rw [q, f3, d2 5 (by omega), c2 5 (by omega), b2 5 (by omega)]
      refine ih (by omega) s5 (by omega) (by omega) ⟨fun o' q => by rw [f1 o' q, d1 o' q, c1 o' q, b1 o' q, hF.1 o' q], fun j q => by rw [f2 j (by omega), d2 j (by omega), c2 j (by omega), b2 j (by omega), hF.2 j q]⟩ (fun j j0 j1 k => ?_)
      rw [all j j0 j1]
      by_cases q : k = i
      · rw [uA_e _ q, hv j j0 j1, if_neg (by omega), if_pos (by omega), q]
      · rw [uA_n _ q, hv j j0 j1]
        by_cases q2 : e ≤ k ∧ k < i
        · rw [if_pos q2, if_pos (by omega)]
        · rw [if_neg q2, if_neg (by omega)]
  exact loop e s (by omega) (by omega) FrJ.rf (fun j _ _ k => by rw [if_neg (by omega)])
theorem p_md_out {e n : Int} {s : Mem} {Q : Int → Mem → Prop} (en : s 34 2 12 = n) (hn : 0 ≤ n ∧ n ≤ 10) (he : 0 ≤ e ∧ e < n)
    (h : ∀ t, FrJ 34 (fun j => j = 2 ∨ (22 ≤ j ∧ j ≤ 25)) s t → t 34 2 = uA (s 34 2) 12 (n - 1) → (∀ j, 22 ≤ j → j ≤ 25 → ∀ k, t 34 j k = if e ≤ k ∧ k < 9 then s 34 j (k + 1) else s 34 j k) → Q (s 34 22 e) t) : T_md_out_14 Q e s := by
  unfold T_md_out_14
  rw [wr_id (x := e) (by omega) (by omega)]
  refine ⟨by omega, ?_⟩
  have loop : ∀ i : Int, ∀ t, e ≤ i → i ≤ 9 → FrJ 34 (fun j => 22 ≤ j ∧ j ≤ 25) s t → (∀ j, 22 ≤ j → j ≤ 25 → ∀ k, t 34 j k = if e ≤ k ∧ k < i then s 34 j (k + 1) else s 34 j k) → K_md_out_23 Q (s 34 22 e) i t := by
    refine fun i => ind_up (P := fun i => ∀ t, e ≤ i → i ≤ 9 → FrJ 34 (fun j => 22 ≤ j ∧ j ≤ 25) s t → (∀ j, 22 ≤ j → j ≤ 25 → ∀ k, t 34 j k = if e ≤ k ∧ k < i then s 34 j (k + 1) else s 34 j k) → K_md_out_23 Q (s 34 22 e) i t) 9 (fun i ih t h0 h1 hF hv => ?_) i
    refine b_md_out_23 ?_
    unfold T_md_out_23 T_md_out_91
    rw [wr_id (x := i) (by omega) (by omega), wr_id (x := i + 1) (by omega) (by omega)]
    refine ⟨fun c => ?_, fun c => ⟨by omega, by omega, fun s2 x2 => ⟨by omega, by omega, fun s3 x3 => ⟨by omega, by omega, fun s4 x4 => ⟨by omega, by omega, fun s5 x5 => ?_⟩⟩⟩⟩⟩
    · intro s1 x1
      obtain ⟨a1, a2, a3⟩ := updM_f x1
      rw [hF.2 2 (by omega), en] at a3
      refine h s1 ⟨fun o' q => by rw [a1 o' q, hF.1 o' q], fun j q => by rw [a2 j (by omega), hF.2 j (by omega)]⟩ a3 (fun j j0 j1 k => ?_)
      rw [a2 j (by omega), hv j j0 j1 k, show i = 9 by omega]
    · obtain ⟨b1, b2, b3⟩ := updM_f x2
      obtain ⟨c1, c2, c3⟩ := updM_f x3
      obtain ⟨d1, d2, d3⟩ := updM_f x4
      obtain ⟨f1, f2, f3⟩ := updM_f x5
      have all : ∀ j, 22 ≤ j → j ≤ 25 → s5 34 j = uA (t 34 j) i (t 34 j (i + 1)) := fun j j0 j1 => by
        rcases (show j = 22 ∨ j = 23 ∨ j = 24 ∨ j = 25 by omega) with q | q | q | q
        · rw [q, f2 22 (by omega), d2 22 (by omega), c2 22 (by omega), b3]
        · rw [q, f2 23 (by omega), d2 23 (by omega), c3, b2 23 (by omega)]
        · rw [q, f2 24 (by omega), d3, c2 24 (by omega), b2 24 (by omega)]
        · rw [q, f3, d2 25 (by omega), c2 25 (by omega), b2 25 (by omega)]
      refine ih (by omega) s5 (by omega) (by omega) ⟨fun o' q => by rw [f1 o' q, d1 o' q, c1 o' q, b1 o' q, hF.1 o' q], fun j q => by rw [f2 j (by omega), d2 j (by omega), c2 j (by omega), b2 j (by omega), hF.2 j q]⟩ (fun j j0 j1 k => ?_)
      rw [all j j0 j1]
      by_cases q : k = i
      · rw [uA_e _ q, hv j j0 j1, if_neg (by omega), if_pos (by omega), q]
      · rw [uA_n _ q, hv j j0 j1]
        by_cases q2 : e ≤ k ∧ k < i
        · rw [if_pos q2, if_pos (by omega)]
        · rw [if_neg q2, if_neg (by omega)]
  exact loop e s (by omega) (by omega) FrJ.rf (fun j _ _ k => by rw [if_neg (by omega)])
theorem g_out {s : Mem} (h : Inv s) {a : Int} (ha : I32 a) : Ag s (W_ce_out a) (W_md_out a) := by
  have wa := ha.w
  obtain ⟨⟨k1, k2, k3⟩, k4⟩ := Inv_end h
  refine w_ce_out (b_ce_out_0 (p_sd_hasEnd rfl wa k1 (by omega) (zf (fun c => ?_) (fun c => p_ce_refuse (by omega) ?_))))
  · refine p_sd_takeOutOfBasket (o := 2) rfl k1 (by omega) c (fun u hF h6 hv => ?_)
    have hu : u 34 = s 34 := hF.1 34 (by omega)
    refine w_md_out (b_md_out_0 (p_md_isInBasket ha (by rw [hu]; omega) ?_))
    rw [hu]
    refine zf (fun _ => p_md_out rfl (by rw [hu]; omega) (by rw [hu]; exact c) (fun v hFv v2 vv => ?_)) (fun z => absurd c z)
    rw [hu] at v2 vv
    have q2 : v 2 = u 2 := hFv.1 2 (by omega)
    have e0 : ∀ x, ¬ x = 12 → v 34 2 x = s 34 2 x := fun x hx => by rw [v2, uA_n _ hx]
    have ej : ∀ j, ¬ (j = 2 ∨ (22 ≤ j ∧ j ≤ 25)) → v 34 j = s 34 j := fun j hj => by rw [hFv.2 j hj, hu]
    refine ⟨by rw [hu, (k4 a c.1 c.2).1.1], Inv_std h (fun o ho => by rw [hFv.1 o (by omega), hF.1 o (by omega)]) (fun j _ hj => ej j (by omega)) (fun x hx => e0 x (by omega)) ?_ ?_ ?_⟩
    · rw [hFv.1 3 (by omega), hF.1 3 (by omega)]
      exact RSh_u h.1.1 (fun k _ _ => e0 k (by omega)) (fun x x1 x2 => ej _ (by unfold mfld; split <;> omega))
    · rw [q2]
      exact Std_c h.1.2.2.1 (fun k hk => e0 k (by omega)) (fun j j0 j1 => hF.2 j (by omega))
    · rw [q2]
      have e12 : v 34 2 12 = s 34 2 12 - 1 := by rw [v2, uA_s]
      refine ⟨⟨h6.trans e12.symm, ?_⟩, fun k k0 kk => ?_⟩
      · show 0 ≤ v 34 2 12 ∧ v 34 2 12 ≤ 10
        omega
      · have kk : k < v 34 2 12 := kk
        show (u 2 2 k = v 34 22 k ∧ 1 ≤ v 34 22 k ∧ v 34 22 k ≤ 80) ∧ (u 2 3 k = v 34 23 k ∧ 1 ≤ v 34 23 k ∧ v 34 23 k ≤ 99) ∧ (u 2 4 k = v 34 24 k ∧ 0 ≤ v 34 24 k ∧ v 34 24 k ≤ 9) ∧ u 2 5 k = v 34 25 k
        rw [vv 22 (by omega) (by omega), vv 23 (by omega) (by omega), vv 24 (by omega) (by omega), vv 25 (by omega) (by omega), hv 2 (by omega) (by omega), hv 3 (by omega) (by omega), hv 4 (by omega) (by omega), hv 5 (by omega) (by omega)]
        by_cases q : a ≤ k
        · rw [if_pos (by omega), if_pos (by omega), if_pos (by omega), if_pos (by omega), if_pos (by omega), if_pos (by omega), if_pos (by omega), if_pos (by omega)]
          exact k4 (k + 1) (by omega) (by omega)
        · rw [if_neg (by omega), if_neg (by omega), if_neg (by omega), if_neg (by omega), if_neg (by omega), if_neg (by omega), if_neg (by omega), if_neg (by omega)]
          exact k4 k k0 (by omega)
  · have eu : updM s 0 7 0 (s 0 7 0 + 1) 34 = s 34 := updM_o _ (by omega)
    refine w_md_out (b_md_out_0 (p_md_isInBasket ha (by rw [eu]; omega) ?_))
    rw [eu]
    exact zf (fun z => absurd z c) (fun _ => p_md_refuses (by omega) (both_refuse h (by omega)))
theorem p_td_clearEntries {o : Nat} {s : Mem} {Q : Mem → Prop} (ho : cls o = 9) (h : ∀ t, FrJ o (fun j => j = 6 ∨ j = 7) s t → t o 7 0 = 0 → (∀ c, 0 ≤ c → c < 6 → t o 6 c = 0) → Q t) : W_td_clearEntries o s Q := by
  refine w_td_clearEntries (b_td_clearEntries_0 ho ?_)
  intro s1 x1
  obtain ⟨a1, a2, a3⟩ := updM_f x1
  have loop : ∀ i : Int, ∀ t, 0 ≤ i → i ≤ 6 → FrJ o (fun j => j = 6) s1 t → (∀ c, 0 ≤ c → c < i → t o 6 c = 0) → K_td_clearEntries_7 Q o i t := by
    refine fun i => ind_up (P := fun i => ∀ t, 0 ≤ i → i ≤ 6 → FrJ o (fun j => j = 6) s1 t → (∀ c, 0 ≤ c → c < i → t o 6 c = 0) → K_td_clearEntries_7 Q o i t) 6 (fun i ih t h0 h1 hF hv => ?_) i
    refine b_td_clearEntries_7 ho ?_
    unfold T_td_clearEntries_7
    rw [wr_id (x := i) (by omega) (by omega)]
    refine ⟨fun c => h t ⟨fun o' q => by rw [hF.1 o' q, a1 o' q], fun j q => by rw [hF.2 j (by omega), a2 j (by omega)]⟩ (by rw [hF.2 7 (by omega), a3, uA_s]) (fun x x0 x1 => hv x x0 (by omega)), fun c => ⟨by omega, fun s2 x2 => ?_⟩⟩
    obtain ⟨b1, b2, b3⟩ := updM_f x2
    refine ih (by omega) s2 (by omega) (by omega) ⟨fun o' q => by rw [b1 o' q, hF.1 o' q], fun j q => by rw [b2 j q, hF.2 j q]⟩ (fun x x0 x1 => ?_)
    rw [b3]
    by_cases q : x = i
    · rw [uA_e _ q]
    · rw [uA_n _ q]
      exact hv x x0 (by omega)
  exact loop 0 s1 (by omega) (by omega) FrJ.rf (fun c c0 c1 => by omega)
theorem bkS_congr {f g f' g' : Int → Int} {c : Int} : ∀ {n : Nat}, (∀ k : Nat, k < n → f (k : Int) = f' (k : Int) ∧ g (k : Int) = g' (k : Int)) → bkS f g c n = bkS f' g' c n
  | 0, _ => rfl
  | n + 1, h => by
    show bkS f g c n + _ = bkS f' g' c n + _
    rw [bkS_congr (n := n) (fun k hk => h k (by omega)), (h n (by omega)).1, (h n (by omega)).2]
theorem bkS_1 {f g : Int → Int} {c i : Int} (hi : 0 ≤ i) : bkS f g c (i + 1).toNat = bkS f g c i.toNat + (if f i = c then g i else 0) := by
  rw [show (i + 1).toNat = i.toNat + 1 by omega]
  show bkS f g c i.toNat + (if f (i.toNat : Int) = c then g (i.toNat : Int) else 0) = _
  rw [show ((i.toNat : Nat) : Int) = i by omega]
theorem bkS_bd {f g : Int → Int} {c : Int} : ∀ {n : Nat}, (∀ k : Nat, k < n → 0 ≤ g (k : Int) ∧ g (k : Int) ≤ 480) → 0 ≤ bkS f g c n ∧ bkS f g c n ≤ 480 * n
  | 0, _ => by show 0 ≤ (0 : Int) ∧ (0 : Int) ≤ _; omega
  | n + 1, h => by
    have h1 := bkS_bd (f := f) (g := g) (c := c) (n := n) (fun k hk => h k (by omega))
    have h2 := h n (by omega)
    show 0 ≤ bkS f g c n + (if f (n : Int) = c then g (n : Int) else 0) ∧ bkS f g c n + (if f (n : Int) = c then g (n : Int) else 0) ≤ _
    split <;> omega
theorem Inv_boo {s : Mem} (h : Inv s) : (s 4 7 0 = s 34 2 17 ∧ 0 ≤ s 34 2 17 ∧ s 34 2 17 ≤ 20) ∧ (∀ k, 0 ≤ k → k < s 34 2 17 → (0 ≤ s 34 30 k ∧ s 34 30 k < 6) ∧ (1 ≤ s 34 31 k ∧ s 34 31 k ≤ 480)) ∧ ∀ c, 0 ≤ c → c < 6 → s 4 6 c = bkS (s 34 30) (s 34 31) c (s 34 2 17).toNat := h.1.2.1.2.2.2
theorem RTo_entry {s t : Mem} (h : RTo (s 4) (MM s)) (h4 : ∀ j, ¬ (j = 6 ∨ j = 7) → t 4 j = s 4 j) (hM : ∀ j, ¬ (j = 2 ∨ j = 30 ∨ j = 31) → t 34 j = s 34 j) (h0 : ∀ k, ¬ k = 17 → t 34 2 k = s 34 2 k) (hb : Boo (t 4) (MM t)) : RTo (t 4) (MM t) := by
  obtain ⟨d1, d2, d3, d4⟩ := h
  have mj : ∀ x, ¬ (x = 0 ∨ x = 18 ∨ x = 19) → MM t x = MM s x := fun x hx => hM _ (by
    rintro (q | q | q)
    · exact hx (Or.inl (mfld_inj (q.trans (show (2 : Nat) = mfld 0 from rfl))))
    · exact hx (Or.inr (Or.inl (mfld_inj (q.trans (show (30 : Nat) = mfld 18 from rfl)))))
    · exact hx (Or.inr (Or.inr (mfld_inj (q.trans (show (31 : Nat) = mfld 19 from rfl))))))
  exact ⟨Kno_c d1 (h0 15 (by omega)) (mj 14 (by omega)) (fun j _ => h4 j (by omega)), Wei_c d2 (mj 15 (by omega)) (h4 2 (by omega)), Lev_c d3 (h0 16 (by omega)) (mj 16 (by omega)) (mj 17 (by omega)) (fun j _ _ => h4 j (by omega)), hb⟩
theorem g_entry {s : Mem} (h : Inv s) {a b : Int} (ha : I32 a) (hb : I32 b) : Ag s (W_ce_entry a b) (W_md_entry a b) := by
  have wa := ha.w
  have wb := hb.w
  obtain ⟨⟨k1, k2, k3⟩, k4, k5⟩ := Inv_boo h
  have wn : wr (s 34 2 17) = s 34 2 17 := wr_id (by omega) (by omega)
  have rf : ¬ a = -1 → ¬ ((0 ≤ a ∧ a ≤ 5) ∧ (1 ≤ b ∧ b ≤ 480)) → W_ce_refuse 0 s (fun r u => W_md_entry a b u (fun r2 v => wr r = wr r2 ∧ Inv v)) := fun c0 c => by
    refine p_ce_refuse (by omega) (w_md_entry (b_md_entry_0 ?_))
    unfold T_md_entry_0
    rw [wa]
    exact br_t c0 (p_in ha.wl (b' := 0) (by decide) (c' := 5) (by decide) (zt (fun c1 => p_in hb.wl (b' := 1) (by decide) (c' := 480) (by decide) (zf (fun c2 => absurd ⟨c1, c2⟩ c) (fun _ => p_md_refuses (by omega) (both_refuse h (by omega))))) (fun _ => p_md_refuses (by omega) (both_refuse h (by omega)))))
  refine w_ce_entry (b_ce_entry_0 ?_)
  unfold T_ce_entry_0
  rw [wa]
  refine ⟨fun c => p_within wa (b' := 0) (by decide) (c' := 5) (by decide) (zt (fun c1 => p_within wb (b' := 1) (by decide) (c' := 480) (by decide) (zf (fun c2 => ?_) (fun c2 => rf c (fun z => c2 z.2)))) (fun c1 => rf c (fun z => c1 z.1))), fun c => p_td_clearEntries rfl (fun u hF h7 h6 => ?_)⟩
  · unfold T_ce_entry_45
    rw [k1, wn]
    refine ⟨fun c3 => ?_, fun c3 => p_ce_refuse (by omega) ?_⟩
    · unfold T_ce_entry_60
      rw [wa]
      refine ⟨by omega, by omega, fun s1 x1 s2 x2 => ?_⟩
      obtain ⟨a1, a2, a3⟩ := updM_f x1
      obtain ⟨b1, b2, b3⟩ := updM_f x2
      rw [a2 7 (by omega), k1] at b3
      have q2 : s2 34 = s 34 := (b1 34 (by omega)).trans (a1 34 (by omega))
      refine w_md_entry (b_md_entry_0 ?_)
      unfold T_md_entry_0
      rw [wa]
      refine br_t c (p_in ha.wl (b' := 0) (by decide) (c' := 5) (by decide) (zt (fun _ => p_in hb.wl (b' := 1) (by decide) (c' := 480) (by decide) (zf (fun _ => ?_) (fun z => absurd c2 z))) (fun z => absurd c1 z)))
      unfold T_md_entry_45 T_md_entry_63
      rw [q2, wn]
      refine br_t (by omega) ⟨by omega, fun s3 x3 => ?_⟩
      obtain ⟨d1, d2, d3⟩ := updM_f x3
      rw [d2 2 (by omega), q2, wn]
      refine ⟨by omega, fun s4 x4 s5 x5 => ?_⟩
      obtain ⟨f1, f2, f3⟩ := updM_f x4
      obtain ⟨i1, i2, i3⟩ := updM_f x5
      rw [f2 2 (by omega), d2 2 (by omega), q2] at i3
      have z30 : s5 34 30 = uA (s 34 30) (s 34 2 17) a := by rw [i2 30 (by omega), f2 30 (by omega), d3, q2]
      have z31 : s5 34 31 = uA (s 34 31) (s 34 2 17) b := by rw [i2 31 (by omega), f3, d2 31 (by omega), q2]
      have r4 : s5 4 = s2 4 := (i1 4 (by omega)).trans ((f1 4 (by omega)).trans (d1 4 (by omega)))
      have r47 : s2 4 7 0 = s 34 2 17 + 1 := by rw [b3, uA_s]
      have r17 : s5 34 2 17 = s 34 2 17 + 1 := by rw [i3, uA_s]
      have r46 : s2 4 6 = uA (s 4 6) a (s 4 6 a + b) := by rw [b2 6 (by omega), a3]
      refine ⟨by rw [r47, r17], Inv_told h (fun o ho => ?_) (fun j hj => ?_) (fun k hk => by rw [i3, uA_n _ (by omega)]) (RTo_entry h.1.2.1 (fun j hj => ?_) (fun j hj => ?_) (fun k hk => by rw [i3, uA_n _ hk]) ⟨⟨?_, ?_⟩, fun k k0 kk => ?_, fun x x0 x1 => ?_⟩)⟩
      · rw [i1 o (by omega), f1 o (by omega), d1 o (by omega), b1 o (by omega), a1 o (by omega)]
      · rw [i2 j (by omega), f2 j (by omega), d2 j (by omega), q2]
      · rw [r4, b2 j (by omega), a2 j (by omega)]
      · rw [i2 j (by omega), f2 j (by omega), d2 j (by omega), q2]
      · show s5 4 7 0 = s5 34 2 17
        rw [r4, r47, r17]
      · show 0 ≤ s5 34 2 17 ∧ s5 34 2 17 ≤ 20
        omega
      · have kk : k < s5 34 2 17 := kk
        show (0 ≤ s5 34 30 k ∧ s5 34 30 k < 6) ∧ (1 ≤ s5 34 31 k ∧ s5 34 31 k ≤ 480)
        rw [z30, z31]
        by_cases q : k = s 34 2 17
        · rw [uA_e _ q, uA_e _ q]
          exact ⟨⟨c1.1, by omega⟩, c2⟩
        · rw [uA_n _ q, uA_n _ q]
          exact k4 k k0 (by omega)
      · show s5 4 6 x = bkS (s5 34 30) (s5 34 31) x (s5 34 2 17).toNat
        rw [r4, r46, r17, bkS_1 k2, z30, z31, uA_s, uA_s, bkS_congr (f' := s 34 30) (g' := s 34 31) (fun k hk => ⟨uA_n _ (by omega), uA_n _ (by omega)⟩), ← k5 x x0 x1]
        by_cases q : x = a
        · rw [uA_e _ q, if_pos q.symm, q]
        · rw [uA_n _ q, if_neg (fun z => q z.symm), Int.add_zero]
    · refine w_md_entry (b_md_entry_0 ?_)
      unfold T_md_entry_0
      rw [wa]
      refine br_t c (p_in ha.wl (b' := 0) (by decide) (c' := 5) (by decide) (zt (fun _ => p_in hb.wl (b' := 1) (by decide) (c' := 480) (by decide) (zf (fun _ => ?_) (fun z => absurd c2 z))) (fun z => absurd c1 z)))
      unfold T_md_entry_45
      rw [updM_o _ (by omega), wn]
      exact br_f (by omega) (p_md_refuses (by omega) (both_refuse h (by omega)))
  · refine w_md_entry (b_md_entry_0 ?_)
    unfold T_md_entry_0
    rw [wa]
    refine br_f c (fun s2 x2 => ?_)
    obtain ⟨b1, b2, b3⟩ := updM_f x2
    have q2 : u 34 = s 34 := hF.1 34 (by omega)
    rw [q2] at b3
    have r17 : s2 34 2 17 = 0 := by rw [b3, uA_s]
    refine ⟨rfl, Inv_told h (fun o ho => by rw [b1 o (by omega), hF.1 o (by omega)]) (fun j hj => by rw [b2 j (by omega), q2]) (fun k hk => by rw [b3, uA_n _ (by omega)]) (RTo_entry h.1.2.1 (fun j hj => by rw [b1 4 (by omega), hF.2 j hj]) (fun j hj => by rw [b2 j (by omega), q2]) (fun k hk => by rw [b3, uA_n _ hk]) ⟨⟨?_, ?_⟩, fun k k0 kk => ?_, fun x x0 x1 => ?_⟩)⟩
    · show s2 4 7 0 = s2 34 2 17
      rw [b1 4 (by omega), h7, r17]
    · show 0 ≤ s2 34 2 17 ∧ s2 34 2 17 ≤ 20
      omega
    · have kk : k < s2 34 2 17 := kk
      omega
    · show s2 4 6 x = bkS (s2 34 30) (s2 34 31) x (s2 34 2 17).toNat
      rw [b1 4 (by omega), h6 x x0 x1, r17]
      rfl
