/-! ===== the ROD ===== -/
theorem p_md_soldBy {c : Int} {s : Mem} {Q : Int → Mem → Prop} (hn : 0 ≤ s 34 2 17 ∧ s 34 2 17 ≤ 20) (wc : wr c = c) (hv : ∀ k, 0 ≤ k → k < s 34 2 17 → 0 ≤ s 34 30 k ∧ s 34 30 k < 6) (h : Q (bkS (s 34 30) (s 34 31) c (s 34 2 17).toNat) s) : W_md_soldBy c s Q := by
  refine w_md_soldBy (b_md_soldBy_0 ?_)
  have loop : ∀ i : Int, 0 ≤ i → i ≤ s 34 2 17 → K_md_soldBy_4 Q c (bkS (s 34 30) (s 34 31) c i.toNat) i s := by
    refine fun i => ind_up (P := fun i => 0 ≤ i → i ≤ s 34 2 17 → K_md_soldBy_4 Q c (bkS (s 34 30) (s 34 31) c i.toNat) i s) (s 34 2 17) (fun i ih h0 h1 => ?_) i
    refine b_md_soldBy_4 ?_
    unfold T_md_soldBy_4 T_md_soldBy_44 T_md_soldBy_35 T_md_soldBy_36
    rw [wr_id (x := s 34 2 17) (by omega) (by omega), wr_id (x := i) (by omega) (by omega)]
    refine ⟨fun q => ?_, fun q => ⟨by omega, ?_⟩⟩
    · rw [show i = s 34 2 17 by omega]
      exact h
    · have ih := ih (by omega) (by omega) (by omega)
      rw [bkS_1 h0] at ih
      have v := hv i h0 (by omega)
      rw [wr_id (x := s 34 30 i) (by omega) (by omega), wc]
      refine ⟨fun q2 => ?_, fun q2 => ⟨by omega, ?_⟩⟩
      · rw [if_neg q2] at ih
        exact ih
      · rw [if_pos (by omega)] at ih
        exact ih
  exact loop 0 (Int.le_refl _) hn.1
/-- one step of the ROD: how many, whose, by how much -/
def rdS (v m c e : Int) (x : Int × (Int × Int)) : Int × (Int × Int) := if ¬ e = 0 ∧ e * v = 64 * m then (x.1 + 1, (if x.1 = 0 then c else x.2.1, if x.1 = 0 then e else x.2.2)) else x
def rdI (v m c : Int) : Nat → Int → Int × (Int × Int) → Int × (Int × Int)
  | 0, _, x => x
  | n + 1, e, x => rdI v m c n (e + 1) (rdS v m c e x)
def rdO (V : Int → Int) (m : Int) : Nat → Int → Int × (Int × Int) → Int × (Int × Int)
  | 0, _, x => x
  | n + 1, c, x => rdO V m n (c + 1) (rdI (V c) m c 17 (-8) x)
theorem rdS_bd (v m c e : Int) (x : Int × (Int × Int)) : x.1 ≤ (rdS v m c e x).1 ∧ (rdS v m c e x).1 ≤ x.1 + 1 := by
  unfold rdS
  split
  · show x.1 ≤ x.1 + 1 ∧ x.1 + 1 ≤ x.1 + 1
    omega
  · omega
theorem rdI_bd (v m c : Int) : ∀ (n : Nat) (e : Int) (x : Int × (Int × Int)), x.1 ≤ (rdI v m c n e x).1 ∧ (rdI v m c n e x).1 ≤ x.1 + n
  | 0, _, x => by show x.1 ≤ x.1 ∧ x.1 ≤ x.1 + (0 : Nat); omega
  | n + 1, e, x => by
    have h1 := rdS_bd v m c e x
    have h2 := rdI_bd v m c n (e + 1) (rdS v m c e x)
    show x.1 ≤ (rdI v m c n (e + 1) (rdS v m c e x)).1 ∧ _
    have e3 : (rdI v m c (n + 1) e x) = rdI v m c n (e + 1) (rdS v m c e x) := rfl
    rw [e3]
    omega
theorem ev_bd {e v : Int} (he : -8 ≤ e ∧ e ≤ 8) (hv : 0 ≤ v ∧ v ≤ 9600) : -100000 ≤ e * v ∧ e * v ≤ 100000 := by
  have h1 : e * v ≤ 8 * v := Int.mul_le_mul_of_nonneg_right he.2 hv.1
  have h2 : -8 * v ≤ e * v := Int.mul_le_mul_of_nonneg_right he.1 hv.1
  omega
theorem ce_rodI {Q : Int → Mem → Prop} {m w c v : Int} {s : Mem} (hm : -480 ≤ m ∧ m ≤ 480) (hc : 0 ≤ c ∧ c < 6) (ev : s 4 6 c = v) (hv : 0 ≤ v ∧ v ≤ 9600) : ∀ (n : Nat) (e : Int) (x : Int × (Int × Int)), e + n = 9 → -8 ≤ e → 0 ≤ x.1 → x.1 + n ≤ 1000 → K_ce_rod_36 Q m w (rdI v m c n e x).1 (rdI v m c n e x).2.1 (rdI v m c n e x).2.2 (c + 1) s → K_ce_rod_47 Q m w x.1 x.2.1 x.2.2 c e s := by
  intro n
  induction n with
  | zero =>
    intro e x he _ _ _ h
    refine b_ce_rod_47 ?_
    unfold T_ce_rod_47 T_ce_rod_106
    rw [wr_id (x := e) (by omega) (by omega)]
    exact br_t (by omega) h
  | succ n ih =>
    intro e x he h0 hx hx2 h
    have eb := ev_bd (e := e) (by omega) hv
    have sb := rdS_bd v m c e x
    have ih := ih (e + 1) (rdS v m c e x) (by omega) (by omega) (by omega) (by omega) h
    refine b_ce_rod_47 ?_
    unfold T_ce_rod_47 T_ce_rod_85 T_ce_rod_97 T_ce_rod_100
    rw [wr_id (x := e) (by omega) (by omega), wr_id (x := c) (by omega) (by omega), ev, wr_id (x := e * v) (by omega) (by omega), wr_id (x := 64 * m) (by omega) (by omega), wr_id (x := x.1) (by omega) (by omega)]
    unfold rdS at ih
    refine br_f (by omega) ⟨fun q => ?_, fun q => ⟨hc, fun q2 => ⟨fun q3 => ?_, fun q3 => ?_⟩, fun q2 => ?_⟩⟩
    · rw [if_neg (fun z => z.1 q)] at ih
      exact ih
    · rw [if_pos ⟨q, q2⟩] at ih
      dsimp only at ih
      rw [if_neg q3, if_neg q3] at ih
      exact ih
    · rw [if_pos ⟨q, q2⟩] at ih
      dsimp only at ih
      rw [if_pos (by omega), if_pos (by omega)] at ih
      exact ih
    · rw [if_neg (fun z => q2 z.2)] at ih
      exact ih
theorem md_rodI {Q : Int → Mem → Prop} {m w c v : Int} {s : Mem} (hm : -480 ≤ m ∧ m ≤ 480) (hc : 0 ≤ c ∧ c < 6) (hn : 0 ≤ s 34 2 17 ∧ s 34 2 17 ≤ 20) (hs : ∀ k, 0 ≤ k → k < s 34 2 17 → 0 ≤ s 34 30 k ∧ s 34 30 k < 6) (ev : bkS (s 34 30) (s 34 31) c (s 34 2 17).toNat = v) (hv : 0 ≤ v ∧ v ≤ 9600) : ∀ (n : Nat) (e : Int) (x : Int × (Int × Int)), e + n = 9 → -8 ≤ e → 0 ≤ x.1 → x.1 + n ≤ 1000 → K_md_rod_40 Q m w (rdI v m c n e x).1 (rdI v m c n e x).2.1 (rdI v m c n e x).2.2 (c + 1) s → K_md_rod_51 Q m w x.1 x.2.1 x.2.2 c e s := by
  intro n
  induction n with
  | zero =>
    intro e x he _ _ _ h
    refine b_md_rod_51 ?_
    unfold T_md_rod_51 T_md_rod_114
    rw [wr_id (x := e) (by omega) (by omega)]
    exact br_t (by omega) h
  | succ n ih =>
    intro e x he h0 hx hx2 h
    have eb := ev_bd (e := e) (by omega) hv
    have sb := rdS_bd v m c e x
    have ih := ih (e + 1) (rdS v m c e x) (by omega) (by omega) (by omega) (by omega) h
    refine b_md_rod_51 ?_
    unfold T_md_rod_51 T_md_rod_108
    rw [wr_id (x := e) (by omega) (by omega)]
    unfold rdS at ih
    refine br_f (by omega) ⟨fun q => ?_, fun q => p_md_soldBy hn (wr_id (by omega) (by omega)) hs ?_⟩
    · rw [if_neg (fun z => z.1 q)] at ih
      exact ih
    · unfold T_md_rod_88 T_md_rod_90 T_md_rod_101 T_md_rod_103 T_md_rod_108
      rw [ev, wr_id (x := e * v) (by omega) (by omega), wr_id (x := 64 * m) (by omega) (by omega), wr_id (x := x.1) (by omega) (by omega)]
      refine ⟨fun q2 => ?_, fun q2 => ⟨fun q3 => br_t q3 ?_, fun q3 => br_f q3 ?_⟩⟩
      · rw [if_neg (fun z => q2 z.2)] at ih
        exact ih
      · rw [if_pos ⟨q, by omega⟩] at ih
        dsimp only at ih
        rw [if_neg q3, if_neg q3] at ih
        exact ih
      · rw [if_pos ⟨q, by omega⟩] at ih
        dsimp only at ih
        rw [if_pos (by omega), if_pos (by omega)] at ih
        exact ih
/-- what is answered of it -/
def rdV (w : Int) (x : Int × (Int × Int)) : Int := if w = 0 then x.1 else if w = 1 then x.2.1 else x.2.2
theorem ce_rodO {Q : Int → Mem → Prop} {m w : Int} {V : Int → Int} {s : Mem} (hm : -480 ≤ m ∧ m ≤ 480) (hw : 0 ≤ w ∧ w ≤ 2) (hV : ∀ c, 0 ≤ c → c < 6 → s 4 6 c = V c ∧ 0 ≤ V c ∧ V c ≤ 9600) : ∀ (n : Nat) (c : Int) (x : Int × (Int × Int)), c + n = 6 → 0 ≤ c → 0 ≤ x.1 → x.1 + 17 * n ≤ 200 → Q (rdV w (rdO V m n c x)) s → K_ce_rod_36 Q m w x.1 x.2.1 x.2.2 c s := by
  intro n
  induction n with
  | zero =>
    intro c x he _ _ _ h
    refine b_ce_rod_36 ?_
    unfold T_ce_rod_36 T_ce_rod_112 T_ce_rod_118 T_ce_rod_128 T_ce_rod_130
    rw [wr_id (x := c) (by omega) (by omega), wr_id (x := w) (by omega) (by omega)]
    have h : Q (if w = 0 then x.1 else if w = 1 then x.2.1 else x.2.2) s := h
    refine br_t (by omega) ⟨fun q => ⟨fun q2 => ?_, fun q2 => ?_⟩, fun q => ?_⟩
    · rw [if_neg q, if_neg q2] at h
      exact h
    · rw [if_neg q, if_pos (by omega)] at h
      exact h
    · rw [if_pos (by omega)] at h
      exact h
  | succ n ih =>
    intro c x he h0 hx hx2 h
    refine b_ce_rod_36 ?_
    unfold T_ce_rod_36
    rw [wr_id (x := c) (by omega) (by omega)]
    obtain ⟨v1, v2⟩ := hV c h0 (by omega)
    have ib := rdI_bd (V c) m c 17 (-8) x
    exact br_f (by omega) (ce_rodI hm (by omega) v1 v2 17 (-8) x (by omega) (by omega) hx (by omega) (ih (c + 1) _ (by omega) (by omega) (by omega) (by omega) h))
theorem md_rodO {Q : Int → Mem → Prop} {m w : Int} {V : Int → Int} {s : Mem} (hm : -480 ≤ m ∧ m ≤ 480) (hw : 0 ≤ w ∧ w ≤ 2) (hn : 0 ≤ s 34 2 17 ∧ s 34 2 17 ≤ 20) (hs : ∀ k, 0 ≤ k → k < s 34 2 17 → 0 ≤ s 34 30 k ∧ s 34 30 k < 6) (hV : ∀ c, 0 ≤ c → c < 6 → bkS (s 34 30) (s 34 31) c (s 34 2 17).toNat = V c ∧ 0 ≤ V c ∧ V c ≤ 9600) : ∀ (n : Nat) (c : Int) (x : Int × (Int × Int)), c + n = 6 → 0 ≤ c → 0 ≤ x.1 → x.1 + 17 * n ≤ 200 → Q (rdV w (rdO V m n c x)) s → K_md_rod_40 Q m w x.1 x.2.1 x.2.2 c s := by
  intro n
  induction n with
  | zero =>
    intro c x he _ _ _ h
    refine b_md_rod_40 ?_
    unfold T_md_rod_40 T_md_rod_120 T_md_rod_128 T_md_rod_138 T_md_rod_140
    rw [wr_id (x := c) (by omega) (by omega), wr_id (x := w) (by omega) (by omega)]
    have h : Q (if w = 0 then x.1 else if w = 1 then x.2.1 else x.2.2) s := h
    refine br_t (by omega) ⟨fun q => ⟨fun q2 => ?_, fun q2 => ?_⟩, fun q => ?_⟩
    · rw [if_neg q, if_neg q2] at h
      exact h
    · rw [if_neg q, if_pos (by omega)] at h
      exact h
    · rw [if_pos (by omega)] at h
      exact h
  | succ n ih =>
    intro c x he h0 hx hx2 h
    refine b_md_rod_40 ?_
    unfold T_md_rod_40
    rw [wr_id (x := c) (by omega) (by omega)]
    obtain ⟨v1, v2⟩ := hV c h0 (by omega)
    have ib := rdI_bd (V c) m c 17 (-8) x
    exact br_f (by omega) (md_rodI hm (by omega) hn hs v1 v2 17 (-8) x (by omega) (by omega) hx (by omega) (ih (c + 1) _ (by omega) (by omega) (by omega) (by omega) h))
theorem g_rod {s : Mem} (h : Inv s) {a b : Int} (ha : I32 a) (hb : I32 b) : Ag s (W_ce_rod a b) (W_md_rod a b) := by
  have wa := ha.w
  have wb := hb.w
  obtain ⟨⟨k1, k2, k3⟩, k4, k5⟩ := Inv_boo h
  have no : ¬ ((-480 ≤ a ∧ a ≤ 480) ∧ (0 ≤ b ∧ b ≤ 2)) → W_md_rod a b s (fun r2 v => wr (-1) = wr r2 ∧ Inv v) := fun c => w_md_rod (b_md_rod_0 (p_in ha.wl (b' := -480) (by decide) (c' := 480) (by decide) (zt (fun c1 => p_in hb.wl (b' := 0) (by decide) (c' := 2) (by decide) (zf (fun c2 => absurd ⟨c1, c2⟩ c) (fun _ => ⟨rfl, h⟩))) (fun _ => ⟨rfl, h⟩))))
  have vb : ∀ c, 0 ≤ bkS (s 34 30) (s 34 31) c (s 34 2 17).toNat ∧ bkS (s 34 30) (s 34 31) c (s 34 2 17).toNat ≤ 9600 := fun c => by
    have := bkS_bd (f := s 34 30) (g := s 34 31) (c := c) (n := (s 34 2 17).toNat) (fun k hk => by have := (k4 k (by omega) (by omega)).2; omega)
    omega
  refine w_ce_rod (b_ce_rod_0 (p_within wa (b' := -480) (by decide) (c' := 480) (by decide) (zt (fun c1 => p_within wb (b' := 0) (by decide) (c' := 2) (by decide) (zf (fun c2 => ?_) (fun c2 => no (fun z => c2 z.2)))) (fun c1 => no (fun z => c1 z.1)))))
  refine ce_rodO (V := fun c => bkS (s 34 30) (s 34 31) c (s 34 2 17).toNat) c1 c2 (fun c c0 c6 => ⟨k5 c c0 c6, vb c⟩) 6 0 (0, (-2, 0)) (by omega) (by omega) (by show (0 : Int) ≤ 0; omega) (by show (0 : Int) + 17 * (6 : Nat) ≤ 200; omega) ?_
  refine w_md_rod (b_md_rod_0 (p_in ha.wl (b' := -480) (by decide) (c' := 480) (by decide) (zt (fun _ => p_in hb.wl (b' := 0) (by decide) (c' := 2) (by decide) (zf (fun _ => ?_) (fun z => absurd c2 z))) (fun z => absurd c1 z))))
  exact md_rodO (V := fun c => bkS (s 34 30) (s 34 31) c (s 34 2 17).toNat) c1 c2 ⟨k2, k3⟩ (fun k k0 kk => (k4 k k0 kk).1) (fun c c0 c6 => ⟨rfl, vb c⟩) 6 0 (0, (-2, 0)) (by omega) (by omega) (by show (0 : Int) ≤ 0; omega) (by show (0 : Int) + 17 * (6 : Nat) ≤ 200; omega) ⟨rfl, h⟩
