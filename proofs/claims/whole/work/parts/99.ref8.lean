/-! ===== RULE: the reference reads it whole ===== -/
theorem p_md_goesOnB {T : Int → Int} {N p f : Int} {v : Mem} {Q : Int → Mem → Prop} (hT : TX T N) (hp : 0 ≤ p ∧ p ≤ N + 1) (hC : RX v T N p) (hf : v 34 34 0 = f) (hb : 0 ≤ f ∧ f ≤ 100000) (hne : ¬ f = 0)
    (h : ∀ m, FrJ 34 (fun j => j = 33) v m → m 34 34 0 = f → Q 0 m) : W_md_goesOn v Q := by
  have hN := hT.1
  refine w_md_goesOn (b_md_goesOn_0 (p_md_blanks hT hC ⟨hp.1, by omega⟩ (fun m1 F1 C1 => ?_)))
  have f1 : m1 34 34 0 = f := by rw [F1.2 34 (by omega)]; exact hf
  have key : T_md_goesOn_40 Q m1 := by
    unfold T_md_goesOn_40 T_md_goesOn_62 T_md_goesOn_63
    rw [f1, wr_id (x := f) (by omega) (by omega)]
    refine br_t hne (fun s1 x1 => ⟨Or.inl rfl, ?_⟩)
    obtain ⟨a1, a2, a3⟩ := updM_f x1
    exact h s1 (F1.tr ⟨a1, fun j hj => a2 j hj⟩) (by rw [a2 34 (by omega)]; exact f1)
  rw [f1, wr_id (x := f) (by omega) (by omega)]
  exact br_t hne key
theorem wrE_lt : ∀ {l : List (Int × Int)} {f : Int → Int} {n k : Int}, k < n → wrE f n l k = f k
  | [], _, _, _, _ => rfl
  | e :: l, f, n, k, h => by
    show wrE (uA f n (e.1 + 16 * e.2)) (n + 1) l k = f k
    rw [wrE_lt (l := l) (by omega), uA_n _ (by omega)]
theorem wrE_at : ∀ (l : List (Int × Int)) (f : Int → Int) (n k : Int), n ≤ k → k < n + (l.length : Int) → ∃ e, e ∈ l ∧ wrE f n l k = e.1 + 16 * e.2 ∧ ∀ (g : Int × Int → Int) (f' : Int → Int) (x : Int), wrF g f' x l (x + (k - n)) = g e
  | [], _, n, k, h, h2 => by
    have h2 : k < n + ((0 : Nat) : Int) := h2
    omega
  | e :: l, f, n, k, h, h2 => by
    rw [List.length_cons] at h2
    by_cases q : k = n
    · refine ⟨e, List.mem_cons_self, ?_, fun g f' x => ?_⟩
      · show wrE (uA f n (e.1 + 16 * e.2)) (n + 1) l k = _
        rw [wrE_lt (by omega), q, uA_s]
      · show wrF g (uA f' x (g e)) (x + 1) l (x + (k - n)) = _
        rw [wrF_lt (by omega), show x + (k - n) = x by omega, uA_s]
    · obtain ⟨e', h3, h4, h5⟩ := wrE_at l (uA f n (e.1 + 16 * e.2)) (n + 1) k (by omega) (by omega)
      refine ⟨e', List.mem_cons_of_mem _ h3, h4, fun g f' x => ?_⟩
      show wrF g (uA f' x (g e)) (x + 1) l (x + (k - n)) = _
      rw [show x + (k - n) = x + 1 + (k - (n + 1)) by omega]
      exact h5 g _ (x + 1)
theorem kindsL_nil {f : Int → Int} {a b : Int} (h : b ≤ a) : kindsL f a b = [] := by
  unfold kindsL
  rw [show (b - a).toNat = 0 by omega]
  rfl
theorem kindsL_cons {f : Int → Int} {a b : Int} (h : a < b) : kindsL f a b = f a % 16 :: kindsL f (a + 1) b := by
  unfold kindsL
  rw [show (b - a).toNat = (b - (a + 1)).toNat + 1 by omega, List.range_succ_eq_map, List.map_cons, List.map_map]
  congr 1
  · rw [show a + ((0 : Nat) : Int) = a from Int.add_zero a]
  · refine List.map_congr_left (fun i _ => ?_)
    show f (a + ((i + 1 : Nat) : Int)) % 16 = f (a + 1 + (i : Int)) % 16
    rw [show a + ((i + 1 : Nat) : Int) = a + 1 + (i : Int) by omega]
theorem kindsL_eq {f g : Int → Int} {a b : Int} (h : ∀ k, a ≤ k → k < b → f k = g k) : kindsL f a b = kindsL g a b := by
  unfold kindsL
  refine List.map_congr_left (fun i hi => ?_)
  have hi := List.mem_range.mp hi
  show f (a + (i : Int)) % 16 = g (a + (i : Int)) % 16
  rw [h _ (by omega) (by omega)]
theorem kindsL_wr : ∀ (l : List (Int × Int)) (f : Int → Int) (n : Int), enA l → kindsL (wrE f n l) n (n + (l.length : Int)) = kds l
  | [], f, n, _ => kindsL_nil (by show n + ((0 : Nat) : Int) ≤ n; omega)
  | e :: l, f, n, h => by
    rw [kindsL_cons (by rw [List.length_cons]; omega)]
    have he := h e List.mem_cons_self
    have e0 : wrE f n (e :: l) n = e.1 + 16 * e.2 := by
      show wrE (uA f n (e.1 + 16 * e.2)) (n + 1) l n = _
      rw [wrE_lt (by omega), uA_s]
    have ih := kindsL_wr l (uA f n (e.1 + 16 * e.2)) (n + 1) (fun x hx => h x (List.mem_cons_of_mem _ hx))
    rw [e0, List.length_cons, show n + ((l.length + 1 : Nat) : Int) = n + 1 + (l.length : Int) by omega]
    have e1 : (e.1 + 16 * e.2) % 16 = e.1 := by have := he.1; omega
    rw [e1]
    exact congrArg (e.1 :: ·) ih
/-- what stands in the draft and in the reference's rows so far -/
def RD (D m : Nat → Int → Int) (ρ a n : Int) : Prop :=
  (∀ k, 0 ≤ k → k < n → (0 ≤ D 0 k % 16 ∧ D 0 k % 16 ≤ 14) ∧ (0 ≤ D 0 k / 16 ∧ D 0 k / 16 ≤ 99999) ∧ (D 0 k % 16 = 1 → D 0 k / 16 < 9) ∧ m 44 (300 * ρ + k) = kap (D 0 k % 16) ∧ m 45 (300 * ρ + k) = D 0 k / 16) ∧
  ∀ c, 0 ≤ c → c < a → ((D 2 c = 1 ∧ m 47 (12 * ρ + c) = 0) ∨ (D 2 c = 0 ∧ m 47 (12 * ρ + c) = 1)) ∧ (m 48 (12 * ρ + c) = D 3 c ∧ m 49 (12 * ρ + c) = D 4 c ∧ m 50 (12 * ρ + c) = D 5 c) ∧ (0 ≤ D 3 c ∧ D 3 c ≤ D 4 c ∧ D 4 c ≤ D 5 c ∧ D 5 c ≤ n) ∧ (D 2 c = 1 → chk (kindsL (D 0) (D 3 c) (D 4 c)) [] = some [false]) ∧ (D 4 c < D 5 c → chk (kindsL (D 0) (D 4 c) (D 5 c)) [] = some [true]) ∧ (D 2 c = 0 → D 4 c < D 5 c)
theorem RD_step {D D1 : Nat → Int → Int} {v m : Mem} {ρ a n kd : Int} {E1 E2 : List (Int × Int)} (h : RD D (v 34) ρ a n) (hn : 0 ≤ n) (hD : DC D D1 a n kd E1 E2) (hE : enA (E1 ++ E2)) (hk : kd = 0 ∨ kd = 1) (h1 : kd = 1 → chk (kds E1) [] = some [false]) (h2 : 0 < E2.length → chk (kds E2) [] = some [true]) (h3 : kd = 0 → 0 < E2.length) (hR : RE v m (300 * ρ + n) (E1 ++ E2)) (hO : Off v m (12 * ρ + a)) (w7 : m 34 47 (12 * ρ + a) = 1 - kd) (w8 : m 34 48 (12 * ρ + a) = n) (w9 : m 34 49 (12 * ρ + a) = n + (E1.length : Int)) (w0 : m 34 50 (12 * ρ + a) = n + (E1.length : Int) + (E2.length : Int)) : RD D1 (m 34) ρ (a + 1) (n + (E1.length : Int) + (E2.length : Int)) := by
  obtain ⟨d0, d1, d6, dd, da2, da3, da4, da5⟩ := hD
  obtain ⟨i1, i2⟩ := h
  have ll : ((E1 ++ E2).length : Int) = (E1.length : Int) + (E2.length : Int) := by rw [List.length_append]; omega
  refine ⟨fun k k0 k1 => ?_, fun c c0 c1 => ?_⟩
  · by_cases q : k < n
    · obtain ⟨j1, j2, j3, j4, j5⟩ := i1 k k0 q
      rw [d0, wrE_lt q, hR.1, hR.2, wrF_lt (by omega), wrF_lt (by omega)]
      exact ⟨j1, j2, j3, j4, j5⟩
    · obtain ⟨e, g1, g2, g3⟩ := wrE_at (E1 ++ E2) (D 0) n k (by omega) (by omega)
      obtain ⟨b1, b2, b3⟩ := hE e g1
      have m1 : (e.1 + 16 * e.2) % 16 = e.1 := by omega
      have m2 : (e.1 + 16 * e.2) / 16 = e.2 := by omega
      have g4 := g3 kpE (v 34 44) (300 * ρ + n)
      have g5 := g3 vE (v 34 45) (300 * ρ + n)
      rw [show 300 * ρ + n + (k - n) = 300 * ρ + k by omega] at g4 g5
      rw [d0, g2, hR.1, hR.2, g4, g5, m1, m2]
      exact ⟨b1, b2, b3, rfl, rfl⟩
  · have ek : ∀ x y, y ≤ n → kindsL (D1 0) x y = kindsL (D 0) x y := fun x y hy => kindsL_eq (fun k _ k1 => by rw [d0, wrE_lt (by omega)])
    by_cases q : c = a
    · subst q
      rw [da2, da3, da4, da5]
      have c1 : kindsL (D1 0) n (n + (E1.length : Int)) = kds E1 := by
        rw [d0, wrE_app, ← kindsL_wr E1 (D 0) n (fun e he => hE e (List.mem_append_left _ he))]
        exact kindsL_eq (fun k _ k1 => wrE_lt k1)
      have c2 : kindsL (D1 0) (n + (E1.length : Int)) (n + (E1.length : Int) + (E2.length : Int)) = kds E2 := by
        rw [d0, wrE_app, kindsL_wr E2 _ _ (fun e he => hE e (List.mem_append_right _ he))]
      rw [c1, c2]
      refine ⟨?_, ⟨w8, w9, w0⟩, by omega, h1, fun z => h2 (by omega), fun z => by have := h3 z; omega⟩
      rcases hk with z | z
      · exact Or.inr ⟨z, by rw [w7, z]; rfl⟩
      · exact Or.inl ⟨z, by rw [w7, z]; rfl⟩
    · obtain ⟨j1, ⟨j2, j3, j4⟩, j5, j6, j7, j8⟩ := i2 c c0 (by omega)
      obtain ⟨y2, y3, y4, y5⟩ := dd c q
      rw [y2, y3, y4, y5, ek _ _ (by omega), ek _ _ (by omega), hO 47 (by omega) (by omega) _ (by omega), hO 48 (by omega) (by omega) _ (by omega), hO 49 (by omega) (by omega) _ (by omega), hO 50 (by omega) (by omega) _ (by omega)]
      exact ⟨j1, ⟨j2, j3, j4⟩, by omega, j6, j7, j8⟩
/-- rules before this one keep their rows -/
def Lo (v m : Mem) (ρ : Int) : Prop := Low v m (300 * ρ) ∧ ∀ j, 47 ≤ j → j ≤ 50 → ∀ i, i < 12 * ρ → m 34 j i = v 34 j i
theorem Lo.rf {v : Mem} {ρ : Int} : Lo v v ρ := ⟨fun _ _ => ⟨rfl, rfl⟩, fun _ _ _ _ _ => rfl⟩
theorem Lo.tr {v m u : Mem} {ρ : Int} (h : Lo v m ρ) (h2 : Lo m u ρ) : Lo v u ρ := ⟨h.1.tr h2.1 (Int.le_refl _), fun j j0 j1 i hi => (h2.2 j j0 j1 i hi).trans (h.2 j j0 j1 i hi)⟩
theorem Lo.fr {v m : Mem} {ρ : Int} {S : Nat → Prop} (h : FrJ 34 S v m) (hS : ∀ j, 44 ≤ j → j ≤ 50 → ¬ S j) : Lo v m ρ := ⟨Low.eq (h.2 44 (hS 44 (by omega) (by omega))) (h.2 45 (hS 45 (by omega) (by omega))), fun j j0 j1 i _ => by rw [h.2 j (hS j (by omega) j1)]⟩
theorem p_md_ruleL {T : Int → Int} {N r ρ : Int} {D' : Nat → Int → Int} {Q : Int → Mem → Prop} {v : Mem} (hT : TX T N) (hρ : 0 ≤ ρ ∧ ρ < 6)
    (h : ∀ m a', FrJ 34 rxJ v m → m 34 34 0 = r → (0 ≤ r ∧ r ≤ 100000) → Lo v m ρ → (r = 0 → (0 ≤ a' ∧ a' ≤ 12) ∧ D' 6 0 = a' ∧ (0 ≤ D' 1 0 ∧ D' 1 0 ≤ 299) ∧ RD D' (m 34) ρ a' (D' 1 0)) → T_md_rule_47 Q a' m) :
    ∀ (f : Nat) (a p c n : Int) (D : Nat → Int → Int) (u : Mem), a + f = 13 → 0 ≤ a → FrJ 34 rxJ v u → Lo v u ρ → RZ u T N p c n ρ → u 34 34 0 = 0 → u 34 38 0 = 0 → (0 ≤ p ∧ p ≤ N) → (0 ≤ c ∧ c ≤ 60) → (0 ≤ n ∧ 3 * n ≤ 14 * c) → rdC T N f a p c n D r D' → RD D (u 34) ρ a n → K_md_rule_27 Q a 1 u
  | 0, _, _, _, _, _, _, _, _, _, _, _, _, _, _, _, _, hs, _ => absurd hs id
  | f + 1, a, p, c, n, D, u, ha, a0, hF, hL, hZ, hf, h38, hp, hc, hn, hs, hR => by
    have hN := hT.1
    obtain ⟨rc, p1, c1, kd, E1, E2, hcl, hs⟩ := hs
    rw [show decide (f = 0) = decide (a = 12) from decide_eq_decide.mpr ⟨fun z => by omega, fun z => by omega⟩] at hcl
    refine b_md_rule_27 ?_
    unfold T_md_rule_27
    refine br_f (by decide) (p_md_ruleClause hT hρ (by omega) hZ hf h38 hp hc hn hcl (fun m q' Fm hq Cm em rb Lm Om gm => ?_))
    have stop : ∀ (w : Mem), FrJ 34 rxJ v w → w 34 34 0 = r → (0 ≤ r ∧ r ≤ 100000) → Lo v w ρ → (r = 0 → (0 ≤ a + 1 ∧ a + 1 ≤ 12) ∧ D' 6 0 = a + 1 ∧ (0 ≤ D' 1 0 ∧ D' 1 0 ≤ 299) ∧ RD D' (w 34) ρ (a + 1) (D' 1 0)) → ((0 : Int) = 0 ∨ (0 : Int) = 1) → K_md_rule_27 Q (a + 1) 0 w := fun w i1 i2 i3 i4 i5 _ => by
      refine b_md_rule_27 ?_
      unfold T_md_rule_27
      exact br_t (by decide) (h w (a + 1) i1 i2 i3 i4 i5)
    have Gm : FrJ 34 rxJ v m := hF.tr Fm
    have Lm : Lo v m ρ := hL.tr ⟨fun k hk => Lm k (by omega), fun j j0 j1 i hi => Om j j0 j1 i (by omega)⟩
    have x33 : ∀ j, j = 33 → rxJ j := fun j z => Or.inl (Or.inl z)
    by_cases z : rc = 0
    · subst z
      have hs := (hs.resolve_left (fun z => z.1 rfl)).2
      obtain ⟨Zm, hm38, Rm, w7, w8, w9, w0⟩ := gm rfl
      obtain ⟨q1, q2, q3, q4, q5, q6, q7, q8, q9, q10⟩ := clR_ok hp hc.1 hn.2 hcl
      have ha12 : ¬ a = 12 := fun z => q1 (decide_eq_true z)
      have step : ∀ D1, DC D D1 a n kd E1 E2 → RD D1 (m 34) ρ (a + 1) (n + (E1.length : Int) + (E2.length : Int)) := fun D1 hD => RD_step hR hn.1 hD q6 q7 q8 q9 q10 Rm Om w7 w8 w9 w0
      refine p_md_goesOn hT q4 Zm.1 em (by omega) (fun w Fw Cw ew => ?_)
      rw [q5] at Cw
      have gF : goF T N p1 0 = (if p1 < N ∧ ¬ T p1 = 59 then 1 + 8 * p1 else 0) := by
        unfold goF
        rw [q5]
        by_cases y : p1 < N ∧ ¬ T p1 = 59
        · rw [if_pos ⟨rfl, y⟩, if_pos y]
        · rw [if_neg (fun y2 => y y2.2), if_neg y]
      rw [gF] at ew
      rw [gF, q5]
      have Gw : FrJ 34 rxJ v w := Gm.tr (Fw.mono (fun j y => Or.inl (y.elim Or.inl (fun y => Or.inr (Or.inl y)))))
      have Lw : Lo v w ρ := Lm.tr (Lo.fr Fw (fun j _ _ => by omega))
      have Rw : ∀ D1 a n, RD D1 (m 34) ρ a n → RD D1 (w 34) ρ a n := fun D1 a n y => by
        unfold RD at y ⊢
        rw [Fw.2 44 (by omega), Fw.2 45 (by omega), Fw.2 47 (by omega), Fw.2 48 (by omega), Fw.2 49 (by omega), Fw.2 50 (by omega)]
        exact y
      rcases hs with ⟨y1, y2, y3⟩ | ⟨y1, y2, y3⟩ | ⟨y1, y2, D1, y3, y4⟩
      · rw [if_pos ⟨y1, y2⟩] at ew ⊢
        rw [b2_f (by omega)]
        exact stop w Gw (by omega) (by omega) Lw (fun y => by omega)
      · rw [if_neg (fun y => by omega)] at ew ⊢
        rw [b2_f (by omega)]
        obtain ⟨d0, d1, d6, _⟩ := id y3
        refine stop w Gw (by omega) (by omega) Lw (fun _ => ⟨by omega, d6, by omega, ?_⟩)
        rw [d1]
        exact Rw _ _ _ (step D' y3)
      · rw [if_neg (fun y => y.2 y2)] at ew ⊢
        rw [b2_t (by omega)]
        refine fun _ => p_md_ruleL hT hρ h f (a + 1) (p1 + 1) c1 _ D1 w (by omega) (by omega) Gw Lw (Zm.st Fw (by omega) (by omega) (by omega) (by omega) (by omega) (by omega) Cw.2.1) ew (by rw [Fw.2 38 (by omega)]; exact hm38) (by omega) (by omega) ⟨by omega, q3⟩ y4 (Rw _ _ _ (step D1 y3))
    · have er : r = rc := by
        rcases hs with ⟨_, y⟩ | ⟨y, _⟩
        · exact y
        · exact absurd y z
      subst er
      refine p_md_goesOnB hT hq Cm em rb z (fun w Fw ew => ?_)
      exact stop w (Gm.tr (Fw.mono x33)) ew rb (Lm.tr (Lo.fr Fw (fun j _ _ => by omega))) (fun y => absurd y z)
