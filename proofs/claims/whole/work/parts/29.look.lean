/-! ===== one BALE: nearest FLAW, stripes that MEET, a SEAM ===== -/
theorem Inv_flw {s : Mem} (h : Inv s) : (0 ≤ s 3 7 0 ∧ s 3 7 0 ≤ 16) ∧ (0 ≤ s 34 2 1 ∧ s 34 2 1 ≤ 16) ∧ clL (s 3 5) (s 3 6) (s 3 7 0).toNat = flL (s 34 7) (s 34 8) (s 34 2 1).toNat ∧ ∀ k, 0 ≤ k → k < s 34 2 1 → 0 ≤ s 34 7 k ∧ s 34 7 k < s 34 2 0 ∧ -1 ≤ s 34 8 k ∧ s 34 8 k < s 34 3 (s 34 7 k) := h.1.1.2.1
theorem clL_1 {f g : Int → Int} {i : Int} (hi : 0 ≤ i) : clL f g (i + 1).toNat = clL f g i.toNat ++ [(f i, g i)] := by
  rw [show (i + 1).toNat = i.toNat + 1 by omega, clL_succ, show ((i.toNat : Nat) : Int) = i by omega]
theorem flL_1 {f g : Int → Int} {i : Int} (hi : 0 ≤ i) : flL f g (i + 1).toNat = flL f g i.toNat ++ (if g i = -1 then [] else [(f i, g i)]) := by
  rw [show (i + 1).toNat = i.toNat + 1 by omega, flL_succ, show ((i.toNat : Nat) : Int) = i by omega]
def nrS (b : Int) (best : Int) (q : Int × Int) : Int := if q.1 = b ∧ (best = -1 ∨ q.2 < best) then q.2 else best
def nrL (b : Int) (l : List (Int × Int)) : Int := l.foldl (nrS b) (-1)
theorem nrL_app (b : Int) (l : List (Int × Int)) (q : Int × Int) : nrL b (l ++ [q]) = nrS b (nrL b l) q := by
  unfold nrL
  rw [List.foldl_append]
  rfl
theorem nrL_bd (b : Int) {l : List (Int × Int)} (h : ∀ q ∈ l, -1 ≤ q.2 ∧ q.2 ≤ 1000) : -1 ≤ nrL b l ∧ nrL b l ≤ 1000 := by
  have key : ∀ (l : List (Int × Int)) (x : Int), (∀ q ∈ l, -1 ≤ q.2 ∧ q.2 ≤ 1000) → (-1 ≤ x ∧ x ≤ 1000) → -1 ≤ l.foldl (nrS b) x ∧ l.foldl (nrS b) x ≤ 1000 := by
    intro l
    induction l with
    | nil => exact fun x _ hx => hx
    | cons q r ih =>
      intro x hl hx
      refine ih (nrS b x q) (fun q hq => hl q (List.mem_cons_of_mem _ hq)) ?_
      unfold nrS
      split
      · exact hl q (List.mem_cons_self ..)
      · exact hx
  exact key l (-1) h (by omega)
theorem of_mem_clL {f g : Int → Int} {n : Nat} {q : Int × Int} (h : q ∈ clL f g n) : ∃ k : Int, 0 ≤ k ∧ k < n ∧ q = (f k, g k) := by
  obtain ⟨k, hk, he⟩ := List.mem_map.mp h
  exact ⟨k, by omega, by have := List.mem_range.mp hk; omega, he.symm⟩
theorem p_sh_nearestFlaw {o : Nat} {b : Int} {s : Mem} {Q : Int → Mem → Prop} (ho : cls o = 5) (hn : 0 ≤ s o 7 0 ∧ s o 7 0 ≤ 16) (hb : wr b = b) (hv : ∀ k, 0 ≤ k → k < s o 7 0 → (0 ≤ s o 5 k ∧ s o 5 k ≤ 1000) ∧ (-1 ≤ s o 6 k ∧ s o 6 k ≤ 1000)) (h : Q (nrL b (clL (s o 5) (s o 6) (s o 7 0).toNat)) s) : W_sh_nearestFlaw o b s Q := by
  refine w_sh_nearestFlaw (b_sh_nearestFlaw_0 ho ?_)
  have loop : ∀ i : Int, 0 ≤ i → i ≤ s o 7 0 → K_sh_nearestFlaw_4 Q o b (nrL b (clL (s o 5) (s o 6) i.toNat)) i s := by
    refine fun i => ind_up (P := fun i => 0 ≤ i → i ≤ s o 7 0 → K_sh_nearestFlaw_4 Q o b (nrL b (clL (s o 5) (s o 6) i.toNat)) i s) (s o 7 0) (fun i ih h0 h1 => ?_) i
    refine b_sh_nearestFlaw_4 ho ?_
    unfold T_sh_nearestFlaw_4 T_sh_nearestFlaw_37 T_sh_nearestFlaw_44 T_sh_nearestFlaw_50
    rw [wr_id (x := s o 7 0) (by omega) (by omega), wr_id (x := i) (by omega) (by omega)]
    refine ⟨fun c => ?_, fun c => ⟨by omega, ?_⟩⟩
    · rw [show i = s o 7 0 by omega]
      exact h
    · have ih := ih (by omega) (by omega) (by omega)
      rw [clL_1 h0, nrL_app] at ih
      obtain ⟨v1, v2⟩ := hv i h0 (by omega)
      have bd := nrL_bd b (l := clL (s o 5) (s o 6) i.toNat) (fun q hq => by
        obtain ⟨k, k0, k1, rfl⟩ := of_mem_clL hq
        exact (hv k k0 (by omega)).2)
      rw [wr_id (x := nrL b (clL (s o 5) (s o 6) i.toNat)) (by omega) (by omega), wr_id (x := s o 5 i) (by omega) (by omega), wr_id (x := s o 6 i) (by omega) (by omega), hb]
      unfold nrS at ih
      dsimp only at ih
      refine ⟨fun c2 => ?_, fun c2 => ⟨fun c3 => ⟨by omega, ?_⟩, fun c3 => ⟨by omega, fun c4 => ?_, fun c4 => ⟨by omega, ?_⟩⟩⟩⟩
      · rw [if_neg (by omega)] at ih
        exact ih
      · rw [if_pos (by omega)] at ih
        exact ih
      · rw [if_neg (by omega)] at ih
        exact ih
      · rw [if_pos (by omega)] at ih
        exact ih
  exact loop 0 (Int.le_refl _) hn.1
theorem p_md_nearest {b : Int} {s : Mem} {Q : Int → Mem → Prop} (hn : 0 ≤ s 34 2 1 ∧ s 34 2 1 ≤ 16) (hb : wr b = b) (hv : ∀ k, 0 ≤ k → k < s 34 2 1 → (0 ≤ s 34 7 k ∧ s 34 7 k ≤ 1000) ∧ (-1 ≤ s 34 8 k ∧ s 34 8 k ≤ 1000)) (h : Q (nrL b (flL (s 34 7) (s 34 8) (s 34 2 1).toNat)) s) : W_md_nearest b s Q := by
  refine w_md_nearest (b_md_nearest_0 ?_)
  have loop : ∀ i : Int, 0 ≤ i → i ≤ s 34 2 1 → K_md_nearest_4 Q b (nrL b (flL (s 34 7) (s 34 8) i.toNat)) i s := by
    refine fun i => ind_up (P := fun i => 0 ≤ i → i ≤ s 34 2 1 → K_md_nearest_4 Q b (nrL b (flL (s 34 7) (s 34 8) i.toNat)) i s) (s 34 2 1) (fun i ih h0 h1 => ?_) i
    refine b_md_nearest_4 ?_
    unfold T_md_nearest_4 T_md_nearest_38 T_md_nearest_39 T_md_nearest_61 T_md_nearest_70 T_md_nearest_71 T_md_nearest_78
    rw [wr_id (x := s 34 2 1) (by omega) (by omega), wr_id (x := i) (by omega) (by omega)]
    refine ⟨fun c => ?_, fun c => ⟨by omega, ?_⟩⟩
    · rw [show i = s 34 2 1 by omega]
      exact h
    · have ih := ih (by omega) (by omega) (by omega)
      rw [flL_1 h0] at ih
      obtain ⟨v1, v2⟩ := hv i h0 (by omega)
      have bd := nrL_bd b (l := flL (s 34 7) (s 34 8) i.toNat) (fun q hq => by
        obtain ⟨k, k0, k1, rfl, -⟩ := of_mem_flL hq
        exact (hv k k0 (by omega)).2)
      rw [wr_id (x := nrL b (flL (s 34 7) (s 34 8) i.toNat)) (by omega) (by omega), wr_id (x := s 34 7 i) (by omega) (by omega), wr_id (x := s 34 8 i) (by omega) (by omega), hb, wr_0, wr_1]
      have z : ∀ {A B : Prop}, A → ((0 : Int) = 0 → A) ∧ (¬ (0 : Int) = 0 → B) := fun a => ⟨fun _ => a, fun q => absurd rfl q⟩
      have o : ∀ {A B : Prop}, B → ((1 : Int) = 0 → A) ∧ (¬ (1 : Int) = 0 → B) := fun a => ⟨fun q => absurd q (by decide), fun _ => a⟩
      by_cases g : s 34 8 i = -1
      · rw [if_pos g, List.append_nil] at ih
        exact ⟨fun _ => z ih, fun c2 => ⟨by omega, fun _ => z ih, fun c3 => absurd g c3⟩⟩
      · rw [if_neg g, nrL_app] at ih
        unfold nrS at ih
        dsimp only at ih
        refine ⟨fun c2 => z ?_, fun c2 => ⟨by omega, fun c3 => absurd c3 g, fun _ => o ⟨fun c3 => ⟨by omega, ?_⟩, fun c3 => ⟨by omega, fun c4 => ?_, fun c4 => ⟨by omega, ?_⟩⟩⟩⟩⟩
        · rw [if_neg (by omega)] at ih
          exact ih
        · rw [if_pos (by omega)] at ih
          exact ih
        · rw [if_neg (by omega)] at ih
          exact ih
        · rw [if_pos (by omega)] at ih
          exact ih
  exact loop 0 (Int.le_refl _) hn.1
theorem cnL_eq {b n n' : Int} {l : List (Int × Int)} (h : ∀ q ∈ l, q.1 = b → (q.2 < n ↔ q.2 < n')) : cnL b n l = cnL b n' l := by
  unfold cnL
  refine List.countP_congr fun q hq => ?_
  have := h q hq
  simp only [decide_eq_true_eq]
  exact ⟨fun a => ⟨a.1, (this a.1).mp a.2⟩, fun a => ⟨a.1, (this a.1).mpr a.2⟩⟩
theorem Flw_wr {s : Mem} (h : Inv s) : ∀ k, 0 ≤ k → k < s 3 7 0 → (0 ≤ s 3 5 k ∧ s 3 5 k < s 34 2 0) ∧ (0 ≤ s 3 6 k ∧ s 3 6 k < s 34 3 (s 3 5 k)) := Flw_vals h.1.1.2.1
theorem g_bale {s : Mem} (h : Inv s) {a b : Int} (ha : I32 a) (hb : I32 b) : Ag s (W_ce_bale a b) (W_md_bale a b) := by
  have wa := ha.w
  have wb := hb.w
  obtain ⟨b1, b2, b3⟩ := Inv_bal h
  obtain ⟨t1, -, t3, -⟩ := Inv_sca h
  obtain ⟨f1, f2, f3, f4⟩ := Inv_flw h
  have f5 := Flw_wr h
  have cl : ∀ k, 0 ≤ k → k < s 3 7 0 → (0 ≤ s 3 5 k ∧ s 3 5 k ≤ 12) ∧ (0 ≤ s 3 6 k ∧ s 3 6 k ≤ 480) := fun k k0 k1 => by
    obtain ⟨x1, x2⟩ := f5 k k0 k1
    obtain ⟨⟨y1, y2, y3⟩, -⟩ := b3 (s 3 5 k) x1.1 x1.2
    omega
  have ml : ∀ k, 0 ≤ k → k < s 34 2 1 → (0 ≤ s 34 7 k ∧ s 34 7 k ≤ 12) ∧ (-1 ≤ s 34 8 k ∧ s 34 8 k ≤ 480) := fun k k0 k1 => by
    obtain ⟨x1, x2, x3, x4⟩ := f4 k k0 k1
    obtain ⟨⟨y1, y2, y3⟩, -⟩ := b3 (s 34 7 k) x1 x2
    omega
  refine w_ce_bale (b_ce_bale_0 (p_sh_has rfl wa b2 b1 (zf (fun c => ?_) (fun c => ?_))))
  · have mdc : ∀ {Q : Int → Mem → Prop}, T_md_bale_10 Q a b s → W_md_bale a b s Q := fun t => w_md_bale (b_md_bale_0 (p_md_isBale ha b1 (zf (fun _ => t) (fun z => absurd c z))))
    obtain ⟨e1, e2, e3, e4⟩ := b3 a c.1 c.2
    have sel : ∀ {A B C D E F G H : Prop}, (b = 0 → A) → (b = 1 → B) → (b = 2 → C) → (b = 3 → D) → (b = 4 → E) → (b = 5 → F) → (b = 6 → G) → (b < 0 ∨ 6 < b → H) → ((b = 0 → A) ∧ (b = 1 → B) ∧ (b = 2 → C) ∧ (b = 3 → D) ∧ (b = 4 → E) ∧ (b = 5 → F) ∧ (b = 6 → G) ∧ True) ∧ (b < 0 ∨ 6 < b → H) := fun a b c d e f g h => ⟨⟨a, b, c, d, e, f, g, trivial⟩, h⟩
    have hi : 0 ≤ a ∧ a < 12 := by omega
    unfold T_ce_bale_18
    rw [wb]
    refine sel (fun q => ?_) (fun q => ?_) (fun q => ?_) (fun q => ?_) (fun q => ?_) (fun q => ?_) (fun q => ?_) (fun q => ?_)
    case refine_5 =>
      unfold T_ce_bale_88
      rw [wa]
      refine ⟨hi, p_sh_flawsWithin rfl f1 wa (wr_id (by omega) (by omega)) (fun k k0 k1 => by have := cl k k0 k1; exact ⟨wr_id (by omega) (by omega), wr_id (by omega) (by omega)⟩) (mdc ?_)⟩
      unfold T_md_bale_10
      rw [wb]
      refine sel (fun r => ?_) (fun r => ?_) (fun r => ?_) (fun r => ?_) (fun r => ?_) (fun r => ?_) (fun r => ?_) (fun r => ?_)
      all_goals first | (exfalso; omega) | skip
      refine p_md_flawsIn f2 wa (by omega) (fun k k0 k1 => by have := ml k k0 k1; omega) ⟨congrArg (fun n : Nat => wr (n : Int)) ?_, h⟩
      rw [← f3]
      refine cnL_eq fun q hq q1 => ?_
      obtain ⟨k, k0, k1, rfl⟩ := of_mem_clL hq
      have x1 := cl k k0 (by omega)
      have x2 := f5 k k0 (by omega)
      have q1 : s 3 5 k = a := q1
      rw [q1] at x2
      show s 3 6 k < s 3 0 a ↔ s 3 6 k < 480
      omega
    case refine_6 =>
      refine p_sh_nearestFlaw rfl f1 wa (fun k k0 k1 => by have := cl k k0 k1; omega) (mdc ?_)
      unfold T_md_bale_10
      rw [wb]
      refine sel (fun r => ?_) (fun r => ?_) (fun r => ?_) (fun r => ?_) (fun r => ?_) (fun r => ?_) (fun r => ?_) (fun r => ?_)
      all_goals first | (exfalso; omega) | skip
      exact p_md_nearest f2 wa (fun k k0 k1 => by have := ml k k0 k1; omega) ⟨by rw [f3], h⟩
    case refine_7 =>
      have mdd : ∀ {Q : Int → Mem → Prop}, T_md_bale_95 Q a s → W_md_bale a b s Q := fun t => by
        refine mdc ?_
        unfold T_md_bale_10
        rw [wb]
        refine sel (fun r => ?_) (fun r => ?_) (fun r => ?_) (fun r => ?_) (fun r => ?_) (fun r => ?_) (fun r => ?_) (fun r => ?_)
        all_goals first | (exfalso; omega) | skip
        exact t
      exact p_sh_hasEnd rfl wa hi e1.1 t3.1 t3.2 e1.2 (zt (fun c2 => mdd (p_md_isEnd wa hi t3.2 e1.2 (zt (fun _ => ⟨rfl, h⟩) (fun z => absurd c2 z)))) (fun c2 => mdd (p_md_isEnd wa hi t3.2 e1.2 (zt (fun z => absurd z c2) (fun _ => ⟨rfl, h⟩)))))
    all_goals first | (unfold T_ce_bale_60; rw [wa]; refine ⟨hi, mdc ?_⟩) | (unfold T_ce_bale_67; rw [wa]; refine ⟨hi, mdc ?_⟩) | (unfold T_ce_bale_74; rw [wa]; refine ⟨hi, mdc ?_⟩) | (unfold T_ce_bale_81; rw [wa]; refine ⟨hi, mdc ?_⟩) | (refine mdc ?_)
    all_goals (unfold T_md_bale_10; rw [wb]; refine sel (fun r => ?_) (fun r => ?_) (fun r => ?_) (fun r => ?_) (fun r => ?_) (fun r => ?_) (fun r => ?_) (fun r => ?_))
    all_goals first | (exfalso; omega) | skip
    · unfold T_md_bale_52
      rw [wa]
      exact ⟨hi, by rw [e1.1], h⟩
    · unfold T_md_bale_59
      rw [wa]
      exact ⟨hi, by rw [e2.1], h⟩
    · unfold T_md_bale_66
      rw [wa]
      exact ⟨hi, by rw [e3.1], h⟩
    · unfold T_md_bale_73
      rw [wa]
      exact ⟨hi, by rw [e4.1], h⟩
    · exact ⟨rfl, h⟩
  · exact w_md_bale (b_md_bale_0 (p_md_isBale ha b1 (zf (fun z => absurd z c) (fun _ => ⟨rfl, h⟩))))
/-! ===== stripes that MEET ===== -/
theorem meet_bd {y st k d : Int} (hy : 0 ≤ y ∧ y ≤ 200) (hs : 0 < st ∧ st ≤ 96) (hk : 1 ≤ k ∧ k ≤ 20) (hd : 1 ≤ d ∧ d ≤ 80) : (0 ≤ idv y st * st ∧ idv y st * st ≤ 200) ∧ 0 ≤ (k - 1) * (idv y st * st) + d ∧ (k - 1) * (idv y st * st) + d ≤ 4000 := by
  have e := idv_p (x := y) (y := st) (by omega) (by omega)
  rw [e]
  have h1 : y / st * st ≤ y := Int.ediv_mul_le y (by omega)
  have h2 : 0 ≤ y / st := Int.ediv_nonneg hy.1 (by omega)
  have h3 : 0 ≤ y / st * st := Int.mul_nonneg h2 (by omega)
  have h4 : (k - 1) * (y / st * st) ≤ 19 * (y / st * st) := Int.mul_le_mul_of_nonneg_right (by omega) h3
  have h5 : 0 ≤ (k - 1) * (y / st * st) := Int.mul_nonneg (by omega) h3
  omega
theorem p_md_meetno {a b c d : Int} {s : Mem} (h : Inv s) (ha : I32 a) (hb : I32 b) (hc : I32 c) (hd : I32 d) (q : ¬ ((0 ≤ a ∧ a < s 34 2 0) ∧ ¬ s 34 6 a = 0 ∧ (1 ≤ b ∧ b ≤ 20) ∧ (1 ≤ c ∧ c ≤ 80) ∧ (0 ≤ d ∧ d ≤ 1))) : W_md_meet a b c d s (fun r2 v => wr (-1) = wr r2 ∧ Inv v) := by
  have wa := ha.w
  obtain ⟨b1, b2, b3⟩ := Inv_bal h
  refine w_md_meet (b_md_meet_0 (p_md_isBale ha b1 (zt (fun c1 => ?_) (fun c1 => ⟨rfl, h⟩))))
  have e4 := (b3 a c1.1 c1.2).2.2.2
  rw [wa, wr_id (x := s 34 6 a) (by omega) (by omega)]
  refine ⟨by omega, fun _ => ⟨rfl, h⟩, fun c2 => p_in hb.wl (b' := 1) (by decide) (c' := 20) (by decide) (zt (fun c3 => p_in hc.wl (b' := 1) (by decide) (c' := 80) (by decide) (zt (fun c4 => p_in hd.wl (b' := 0) (by decide) (c' := 1) (by decide) (zf (fun c5 => absurd ⟨c1, c2, c3, c4, c5⟩ q) (fun _ => ⟨rfl, h⟩))) (fun _ => ⟨rfl, h⟩))) (fun _ => ⟨rfl, h⟩))⟩
theorem p_md_meetyes {a b c d : Int} {s : Mem} {Q : Int → Mem → Prop} (h : Inv s) (ha : I32 a) (hb : I32 b) (hc : I32 c) (hd : I32 d) (c1 : 0 ≤ a ∧ a < s 34 2 0) (c2 : ¬ s 34 6 a = 0) (c3 : 1 ≤ b ∧ b ≤ 20) (c4 : 1 ≤ c ∧ c ≤ 80) (c5 : 0 ≤ d ∧ d ≤ 1) (t : T_md_meet_54 Q a b c d s) : W_md_meet a b c d s Q := by
  have wa := ha.w
  obtain ⟨b1, b2, b3⟩ := Inv_bal h
  refine w_md_meet (b_md_meet_0 (p_md_isBale ha b1 (zt (fun _ => ?_) (fun z => absurd c1 z))))
  have e4 := (b3 a c1.1 c1.2).2.2.2
  rw [wa, wr_id (x := s 34 6 a) (by omega) (by omega)]
  exact ⟨by omega, fun z => absurd z c2, fun _ => p_in hb.wl (b' := 1) (by decide) (c' := 20) (by decide) (zt (fun _ => p_in hc.wl (b' := 1) (by decide) (c' := 80) (by decide) (zt (fun _ => p_in hd.wl (b' := 0) (by decide) (c' := 1) (by decide) (zf (fun _ => t) (fun z => absurd c5 z))) (fun z => absurd c4 z))) (fun z => absurd c3 z))⟩
theorem g_meet {s : Mem} (h : Inv s) {a b c d : Int} (ha : I32 a) (hb : I32 b) (hc : I32 c) (hd : I32 d) : Ag s (W_ce_meet a b c d) (W_md_meet a b c d) := by
  have wa := ha.w
  have wb := hb.w
  have wc := hc.w
  have wd := hd.w
  obtain ⟨b1, b2, b3⟩ := Inv_bal h
  obtain ⟨t1, -⟩ := Inv_sca h
  have no : ∀ (_ : ¬ ((0 ≤ a ∧ a < s 34 2 0) ∧ ¬ s 34 6 a = 0 ∧ (1 ≤ b ∧ b ≤ 20) ∧ (1 ≤ c ∧ c ≤ 80) ∧ (0 ≤ d ∧ d ≤ 1))), W_md_meet a b c d s (fun r2 v => wr (-1) = wr r2 ∧ Inv v) := fun q => p_md_meetno h ha hb hc hd q
  refine w_ce_meet (b_ce_meet_0 (p_sh_has rfl wa b2 b1 (zt (fun c1 => p_ce_areDrops wb wc (zt (fun c2 => p_within wd (b' := 0) (by decide) (c' := 1) (by decide) (zf (fun c3 => ?_) (fun c3 => no (fun z => c3 z.2.2.2.2)))) (fun c2 => no (fun z => c2 ⟨z.2.2.1, z.2.2.2.1⟩)))) (fun c1 => no (fun z => c1 z.1)))))
  obtain ⟨e1, e2, e3, e4⟩ := b3 a c1.1 c1.2
  have hi : 0 ≤ a ∧ a < 12 := by omega
  unfold T_ce_meet_38
  rw [wa, wr_id (x := s 3 3 a) (by omega) (by omega), e4.1]
  refine ⟨hi, fun c4 => ?_, fun c4 => no (fun z => z.2.1 (by omega))⟩
  have bd := meet_bd (y := c + s 34 2 2 + s 34 6 a - 1) (st := s 34 6 a) (k := b) (d := c) (by omega) (by omega) c2.1 c2.2
  unfold T_ce_meet_54
  rw [wa, t1.1, wr_id (x := s 34 6 a) (by omega) (by omega)]
  refine ⟨by omega, fun x ex => ?_⟩
  rw [← ex] at bd
  rw [wr_id (x := (b - 1) * x + c) (by omega) (by omega), e1.1, wr_id (x := s 34 3 a) (by omega) (by omega)]
  have mdc : ∀ {Q : Int → Mem → Prop}, ((b - 1) * x + c ≤ s 34 3 a → T_md_meet_115 Q a b c d ((b - 1) * x + c) s) ∧ (¬ (b - 1) * x + c ≤ s 34 3 a → Q (-2) s) → W_md_meet a b c d s Q := fun t => by
    refine p_md_meetyes h ha hb hc hd c1 (by omega) c2.1 c2.2 c3 ?_
    unfold T_md_meet_54
    rw [wa, wr_id (x := s 34 6 a) (by omega) (by omega)]
    refine ⟨hi, hi, by omega, hi, fun y ey => ⟨hi, ?_⟩⟩
    rw [← ex] at ey
    subst ey
    rw [wr_id (x := (b - 1) * y + c) (by omega) (by omega), wr_id (x := s 34 3 a) (by omega) (by omega)]
    exact t
  refine ⟨hi, fun c5 => ?_, fun c5 => mdc (br_f c5 ⟨rfl, h⟩)⟩
  unfold T_ce_meet_99 T_ce_meet_129 T_ce_meet_135
  rw [wa, wd, t1.1, e1.1, wr_id (x := s 34 3 a) (by omega) (by omega), wr_id (x := (b - 1) * x + c + s 34 2 2) (by omega) (by omega)]
  refine ⟨hi, fun y ey => ?_⟩
  have ey2 : tkn (s 34 3 a) ((b - 1) * x + c) (s 34 2 2) = y := by
    unfold tkn
    rw [ey]
    split <;> omega
  have mdd : ∀ {Q : Int → Mem → Prop}, (¬ d = 0 → Q (y - b * c) s) ∧ (¬ ¬ d = 0 → Q y s) → W_md_meet a b c d s Q := fun t => by
    refine mdc (br_t c5 ?_)
    unfold T_md_meet_115 T_md_meet_145 T_md_meet_151
    rw [wa, wd]
    refine ⟨hi, p_md_taken (by omega) (by omega) ?_⟩
    rw [ey2]
    exact t
  exact ⟨fun c6 => mdd (br_t c6 ⟨rfl, h⟩), fun c6 => mdd (br_f c6 ⟨rfl, h⟩)⟩
