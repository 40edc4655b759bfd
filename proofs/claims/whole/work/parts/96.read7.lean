/-! ===== RULE: the class reads CLAUSES ===== -/
def cws : List (List Int) := [[102, 114, 111, 109], [103, 105, 118, 101]]
def clR (T : Int → Int) (N : Int) (full : Bool) (p c r p' c' kd : Int) (E1 E2 : List (Int × Int)) : Prop :=
  ∃ x, fw T (sc (ltT T) N (sc (blT T) N p)) (sc (blT T) N p) cws 0 x ∧
    ((x = -1 ∧ r = 1 + 8 * sc (blT T) N p + 0) ∨ ((x = 0 ∨ x = 1) ∧ full = true ∧ r = 1 + 8 * sc (blT T) N p + 4) ∨
     (x = 0 ∧ ¬ full = true ∧ kd = 1 ∧ ∃ r1 p1 c1, smC T N (61 - c).toNat (-1) (-1) (sc (ltT T) N (sc (blT T) N p)) c r1 p1 c1 E1 ∧ ((¬ r1 = 0 ∧ r = r1) ∨ (r1 = 0 ∧ ∃ y, fw T (sc (ltT T) N p1) p1 [[105, 102]] 0 y ∧ ((y = -1 ∧ r = 0 ∧ p' = p1 ∧ c' = c1 ∧ E2 = []) ∨ (y = 0 ∧ teC T N (61 - c1).toNat (sc (ltT T) N p1) c1 [] r p' c' E2))))) ∨
     (x = 1 ∧ ¬ full = true ∧ kd = 0 ∧ E1 = [] ∧ teC T N (61 - c).toNat (sc (ltT T) N (sc (blT T) N p)) c [] r p' c' E2))
def DC (D D1 : Nat → Int → Int) (a n kd : Int) (E1 E2 : List (Int × Int)) : Prop :=
  D1 0 = wrE (D 0) n (E1 ++ E2) ∧ D1 1 0 = n + (E1.length : Int) + (E2.length : Int) ∧ D1 6 0 = a + 1 ∧ (∀ i, ¬ i = a → D1 2 i = D 2 i ∧ D1 3 i = D 3 i ∧ D1 4 i = D 4 i ∧ D1 5 i = D 5 i) ∧ D1 2 a = kd ∧ D1 3 a = n ∧ D1 4 a = n + (E1.length : Int) ∧ D1 5 a = n + (E1.length : Int) + (E2.length : Int)
theorem p_ru_beginTest {q n : Int} {s : Mem} {Q : Mem → Prop} (hq : 1 ≤ q ∧ q ≤ 12) (h6 : s 23 6 0 = q) (h1 : s 23 1 0 = n) (h : ∀ t, FrJ 23 (fun j => j = 4 ∨ j = 5) s t → t 23 4 = uA (s 23 4) (q - 1) n → t 23 5 = uA (s 23 5) (q - 1) n → Q t) : W_ru_beginTest 23 s Q := by
  refine w_ru_beginTest (b_ru_beginTest_0 rfl ?_)
  unfold T_ru_beginTest_0 T_ru_beginTest_37
  rw [h6, wr_id (x := q) (by omega) (by omega), wr_id (x := q - 1) (by omega) (by omega)]
  refine ⟨fun z => by omega, fun _ => ⟨by omega, fun s2 x2 => ?_⟩⟩
  obtain ⟨a1, a2, a3⟩ := updM_f x2
  rw [a2 6 (by omega), h6, wr_id (x := q - 1) (by omega) (by omega), a2 1 (by omega), h1]
  refine ⟨by omega, fun s3 x3 => ?_⟩
  obtain ⟨b1, b2, b3⟩ := updM_f x3
  rw [h1] at a3
  exact h s3 ⟨fun o z => by rw [b1 o z, a1 o z], fun j z => by rw [b2 j (by omega), a2 j (by omega)]⟩ (by rw [b2 4 (by omega), a3]) (by rw [b3, a2 5 (by omega)])
theorem p_ru_beginClause {kd a n : Int} {s : Mem} {Q : Mem → Prop} (ha : 0 ≤ a ∧ a < 12) (hk : kd = 0 ∨ kd = 1) (h6 : s 23 6 0 = a) (h1 : s 23 1 0 = n) (h : ∀ t, FrJ 23 (fun j => 2 ≤ j ∧ j ≤ 6) s t → t 23 2 = uA (s 23 2) a kd → t 23 3 = uA (s 23 3) a n → t 23 4 = uA (s 23 4) a n → t 23 5 = uA (s 23 5) a n → t 23 6 0 = a + 1 → Q t) : W_ru_beginClause 23 kd s Q := by
  refine w_ru_beginClause (b_ru_beginClause_0 rfl ?_)
  unfold T_ru_beginClause_0 T_ru_beginClause_42
  rw [h6, wr_id (x := a) (by omega) (by omega)]
  refine ⟨fun z => by omega, fun _ => ⟨by omega, hk, fun s2 x2 => ?_⟩⟩
  obtain ⟨a1, a2, a3⟩ := updM_f x2
  rw [a2 6 (by omega), h6, wr_id (x := a) (by omega) (by omega), a2 1 (by omega), h1]
  refine ⟨by omega, fun s3 x3 s4 x4 => ?_⟩
  obtain ⟨b1, b2, b3⟩ := updM_f x3
  obtain ⟨c1, c2, c3⟩ := updM_f x4
  have e6 : s4 23 6 0 = a + 1 := by rw [c3, uA_s, b2 6 (by omega), a2 6 (by omega), h6]
  refine p_ru_beginTest (q := a + 1) (n := n) (by omega) e6 (by rw [c2 1 (by omega), b2 1 (by omega), a2 1 (by omega)]; exact h1) (fun t F t4 t5 => ?_)
  rw [show a + 1 - 1 = a by omega] at t4 t5
  have eq4 : ∀ j, ¬ (j = 2 ∨ j = 3 ∨ j = 6) → s4 23 j = s 23 j := fun j hj => by rw [c2 j (by omega), b2 j (by omega), a2 j (by omega)]
  refine h t ⟨fun o z => by rw [F.1 o z, c1 o z, b1 o z, a1 o z], fun j z => by rw [F.2 j (by omega), eq4 j (by omega)]⟩ ?_ ?_ (by rw [t4, eq4 4 (by omega)]) (by rw [t5, eq4 5 (by omega)]) (by rw [F.2 6 (by omega)]; exact e6)
  · rw [F.2 2 (by omega), c2 2 (by omega), b2 2 (by omega), a3]
  · rw [F.2 3 (by omega), c2 3 (by omega), b3, a2 3 (by omega)]
theorem p_rr_readTest {T : Int → Int} {N q p c n : Int} {s : Mem} {Q : Int → Mem → Prop} (hT : TX T N) (hq : 1 ≤ q ∧ q ≤ 12) (hc : 0 ≤ c ∧ c ≤ 60) (hS : CS s T N p c n q) (hp : 0 ≤ p ∧ p ≤ N) (hn0 : 0 ≤ n) (hn : 3 * n ≤ 14 * c + 3)
    (h : ∀ t r p' c' E, FR s t → (0 ≤ r ∧ r ≤ 5000) → teC T N (61 - c).toNat p c [] r p' c' E → (r = 0 → endF T N p' = 0 → CE s t E ∧ CS t T N p' c' (n + (E.length : Int)) q) → (r = 0 → 0 ≤ p' ∧ p' ≤ N) → Q (if r = 0 then endF T N p' else r) t) : W_rr_readTest s Q := by
  refine w_rr_readTest (b_rr_readTest_0 ?_)
  intro s1 x1 s2 x2 s3 x3
  obtain ⟨a1, a2, a3⟩ := updM_f x1
  obtain ⟨b1, b2, b3⟩ := updM_f x2
  obtain ⟨c1, c2, c3⟩ := updM_f x3
  have o3 : ∀ o, ¬ o = 22 → s3 o = s o := fun o ho => by rw [c1 o ho, b1 o ho, a1 o ho]
  have S3 : CS s3 T N p c n q := by
    obtain ⟨q1, q2, q3, q4, q5⟩ := hS
    exact ⟨⟨by rw [o3 1 (by omega)]; exact q1.1, by rw [o3 1 (by omega)]; exact q1.2.1, by rw [o3 1 (by omega)]; exact q1.2.2⟩, by rw [c2 1 (by omega), b2 1 (by omega), a2 1 (by omega)]; exact q2, by rw [o3 23 (by omega)]; exact q3, by rw [o3 23 (by omega)]; exact q4, by rw [o3 23 (by omega)]; exact q5⟩
  have T3 : ST s3 [] := ⟨by rw [c2 4 (by omega), b2 4 (by omega), a3, uA_s]; rfl, by rw [c2 5 (by omega), b3, uA_s]; rfl, by rw [c3, uA_s]; rfl, trivial⟩
  refine p_rr_readTestL hT hq (61 - c).toNat 0 p c n [] s3 (by omega) (by omega) (by omega) (by omega) trivial (by show (0 : Int) ≤ 10; decide) S3 hp T3 hn0 (by show 3 * (n + ((0 : Nat) : Int)) ≤ _; omega) (fun t r p' c' E i1 i2 i3 i4 i5 => ?_)
  refine h t r p' c' E (FR.trn (fun o ho => o3 o (by omega)) i1) i2 i3 (fun z1 z2 => ?_) i5
  obtain ⟨y1, y2⟩ := i4 z1 z2
  refine ⟨?_, y2⟩
  unfold CE at y1
  rw [o3 23 (by omega)] at y1
  exact y1
theorem p_rr_readClause {full : Bool} {T : Int → Int} {N p c n a : Int} {s : Mem} {Q : Int → Mem → Prop} (hT : TX T N) (hC : CXx s T N p) (h2 : s 22 1 0 = c) (h1 : s 23 1 0 = n) (h6 : s 23 6 0 = a) (hp : 0 ≤ p ∧ p ≤ N) (hc : 0 ≤ c ∧ c ≤ 60) (hn : 0 ≤ n ∧ 3 * n ≤ 14 * c) (ha : 0 ≤ a ∧ (¬ full = true → a < 12))
    (h : ∀ t r p' c' kd E1 E2, FR s t → (0 ≤ r ∧ r ≤ 5000) → clR T N full p c r p' c' kd E1 E2 → (r = 0 → endF T N p' = 0 → DC (s 23) (t 23) a n kd E1 E2 ∧ CXx t T N p' ∧ t 22 1 0 = c') → (r = 0 → 0 ≤ p' ∧ p' ≤ N) → Q (if r = 0 then endF T N p' else r) t) : W_rr_readClause (if full = true then 1 else 0) s Q := by
  have hN := hT.1
  have hnb := sc_bd (P := blT T) hp.2
  refine w_rr_readClause (b_rr_readClause_0 (p_tx_next hT hC hp (fun t1 F1 C1 => ?_)))
  unfold clR at h
  generalize sc (blT T) N p = b at hnb C1 h ⊢
  have hlt := sc_bd (P := ltT T) hnb.2
  refine p_tx_readWord (ws := cws) rfl rfl (by decide) (by intro z; cases z) (by decide) hT C1 (by omega) (fun t2 x F2 C2 hx => ?_)
  have F12 := F1.tr F2
  have hxb := fw_bd (by omega) hx
  have hxb : x = -1 ∨ x = 0 ∨ x = 1 := hxb.elim Or.inl (fun z => Or.inr (by have : cws.length = 2 := rfl; omega))
  have bad : ∀ t r, FR s t → (0 ≤ r ∧ r ≤ 5000) → ¬ r = 0 → _ → Q r t := fun t r f1 rb z ht => by
    have h := h t r 0 0 0 [] [] f1 rb ht (fun w => absurd w z) (fun w => absurd w z)
    rw [if_neg z] at h
    exact h
  rw [wr_id (x := x) (by omega) (by omega)]
  have wfull : wr (if full = true then (1 : Int) else 0) = 0 ↔ ¬ full = true := by
    cases full with
    | false => exact ⟨fun _ => by decide, fun _ => by decide⟩
    | true => exact ⟨fun z => absurd z (by decide), fun z => absurd rfl z⟩
  refine ⟨fun z => ?_, fun z => p_tx_fault (bad t2 _ (FR.f1 F12) (by omega) (by omega) ⟨x, hx, Or.inl ⟨Decidable.byContradiction z, rfl⟩⟩)⟩
  unfold T_rr_readClause_25 T_rr_readClause_35 T_rr_readClause_48 T_rr_readClause_49
  rw [wfull, wr_id (x := x) (by omega) (by omega)]
  refine ⟨fun zf => ?_, fun zf => p_tx_fault (bad t2 _ (FR.f1 F12) (by omega) (by omega) ⟨x, hx, Or.inr (Or.inl ⟨by omega, Decidable.byContradiction zf, rfl⟩)⟩)⟩
  have ha2 := ha.2 zf
  have e23 : t2 23 = s 23 := F12.1 23 (by omega)
  have e22 : t2 22 = s 22 := F12.1 22 (by omega)
  -- behind the clause's opening
  have opened : ∀ (kd : Int) (u : Mem), FrJ 23 (fun j => 2 ≤ j ∧ j ≤ 6) t2 u → u 23 5 = uA (t2 23 5) a n → u 23 6 0 = a + 1 → CS u T N (sc (ltT T) N b) c n (a + 1) := fun kd u F u5 u6 =>
    ⟨⟨by rw [F.1 1 (by omega)]; exact C2.1, by rw [F.1 1 (by omega)]; exact C2.2.1, by rw [F.1 1 (by omega)]; exact C2.2.2⟩, by rw [F.1 22 (by omega), e22]; exact h2, by rw [F.2 1 (by omega), e23]; exact h1, u6, by rw [show a + 1 - 1 = a by omega, u5, uA_s]⟩
  refine ⟨fun z1 => ?_, fun z1 => ?_⟩
  · -- give
    have x1 : x = 1 := by omega
    subst x1
    refine p_ru_beginClause (a := a) (n := n) ⟨ha.1, ha2⟩ (Or.inl rfl) (by rw [e23]; exact h6) (by rw [e23]; exact h1) (fun u F u2 u3 u4 u5 u6 => ?_)
    refine ⟨fun z2 => absurd z2 (by decide), fun _ => p_rr_readTest hT (q := a + 1) (by omega) hc (opened 0 u F u5 u6) (by omega) hn.1 (by omega) (fun t r p' c' E i1 i2 i3 i4 i5 => ?_)⟩
    refine h t r p' c' 0 [] E ((FR.f1 F12).trn (FR.trn (fun o ho => F.1 o (by omega)) i1)) i2 ⟨1, hx, Or.inr (Or.inr (Or.inr ⟨rfl, zf, rfl, rfl, i3⟩))⟩ (fun y1 y2 => ?_) i5
    obtain ⟨⟨g0, g1, g5, g5', g2, g3, g4, g6⟩, gS⟩ := i4 y1 y2
    rw [u6, show a + 1 - 1 = a by omega] at g5 g5'
    refine ⟨⟨?_, ?_, by rw [g6, u6], fun i hi => ⟨?_, ?_, ?_, ?_⟩, ?_, ?_, ?_, ?_⟩, gS.1, gS.2.1⟩
    · rw [g0, F.2 0 (by omega), F.2 1 (by omega), e23, h1]; rfl
    · rw [g1, F.2 1 (by omega), e23, h1]; show _ = n + ((0 : Nat) : Int) + _; omega
    · rw [g2, u2, uA_n _ hi, e23]
    · rw [g3, u3, uA_n _ hi, e23]
    · rw [g4, u4, uA_n _ hi, e23]
    · rw [g5 i hi, u5, uA_n _ hi, e23]
    · rw [g2, u2, uA_s]
    · rw [g3, u3, uA_s]
    · rw [g4, u4, uA_s]; show n = n + ((0 : Nat) : Int); omega
    · rw [g5', g1, F.2 1 (by omega), e23, h1]; show _ = n + ((0 : Nat) : Int) + _; omega
  · -- from
    have x1 : x = 0 := by omega
    subst x1
    refine p_ru_beginClause (a := a) (n := n) ⟨ha.1, ha2⟩ (Or.inr rfl) (by rw [e23]; exact h6) (by rw [e23]; exact h1) (fun u F u2 u3 u4 u5 u6 => ?_)
    have GU : FR s u := (FR.f1 F12).trn (fun o ho => F.1 o (by omega))
    refine ⟨fun _ => ?_, fun z2 => absurd (by decide) z2⟩
    unfold T_rr_readClause_63 T_rr_readClause_78 T_rr_readClause_109 T_rr_readClause_114
    refine p_rr_readSum hT (q := a + 1) (by omega) (opened 1 u F u5 u6) (by omega) (by omega) hc (fun t3 r1 p1 c1 E1 f3 g3 rb hs hr => ?_)
    rw [wr_id (x := r1) (by omega) (by omega)]
    refine ⟨fun z2 => ?_, fun z2 => ?_⟩
    · subst z2
      obtain ⟨G3, S3, d1, d2⟩ := hr rfl
      obtain ⟨k1, k2, k3, k4, k5, k6⟩ := smC_ok _ _ _ _ _ _ _ _ (show 0 ≤ sc (ltT T) N b ∧ sc (ltT T) N b ≤ N by omega) (by omega) (Or.inl rfl) (Or.inl rfl) hs
      have pdm : pd (-1) = 0 := rfl
      rw [pdm] at k2
      obtain ⟨g0, g1, g5, g5', g2, g3', g4, g6⟩ := G3
      rw [u6, show a + 1 - 1 = a by omega] at g5 g5'
      have eu1 : u 23 1 0 = n := by rw [F.2 1 (by omega), e23]; exact h1
      have eu0 : u 23 0 = s 23 0 := by rw [F.2 0 (by omega), e23]
      rw [eu1] at g0 g1
      rw [eu0] at g0
      refine p_ru_beginTest (q := a + 1) (n := n + (E1.length : Int)) (by omega) S3.2.2.2.1 S3.2.2.1 (fun v V v4 v5 => ?_)
      rw [show a + 1 - 1 = a by omega] at v4 v5
      have SV : CS v T N p1 c1 (n + (E1.length : Int)) (a + 1) := by
        obtain ⟨q1, q2, q3, q4, q5⟩ := S3
        exact ⟨⟨by rw [V.1 1 (by omega)]; exact q1.1, by rw [V.1 1 (by omega)]; exact q1.2.1, by rw [V.1 1 (by omega)]; exact q1.2.2⟩, by rw [V.1 22 (by omega)]; exact q2, by rw [V.2 1 (by omega)]; exact q3, by rw [V.2 6 (by omega)]; exact q4, by rw [show a + 1 - 1 = a by omega, v5, uA_s]⟩
      have GV : FR s v := (GU.trn f3).trn (fun o ho => V.1 o (by omega))
      refine p_tx_next hT SV.1 d1 (fun w1 W1 D1 => ?_)
      rw [k4] at D1 ⊢
      refine p_tx_readWord (ws := [[105, 102]]) rfl rfl (by decide) (by intro z; cases z) (by decide) hT D1 d1 (fun w2 y W2 D2 hy => ?_)
      have W12 := W1.tr W2
      have SW := SV.mv W12 D2
      have GW : FR s w2 := GV.trn (FR.f1 W12)
      have hlt2 := sc_bd (P := ltT T) d1.2
      have w23 : w2 23 = v 23 := W12.1 23 (by omega)
      have hyy : y = 0 ∨ y = -1 := by
        rcases hy with ⟨_, q⟩ | ⟨_, q⟩
        · exact Or.inl q
        · exact Or.inr q
      -- what the draft is behind the test
      have whole : ∀ (t : Mem) (E : List (Int × Int)), CE w2 t E → DC (s 23) (t 23) a n 1 E1 E := fun t E hE => by
        obtain ⟨i0, i1, i5, i5', i2, i3, i4, i6⟩ := hE
        rw [w23, V.2 6 (by omega), g6, u6, show a + 1 - 1 = a by omega] at i5 i5'
        have v1 : v 23 1 0 = n + (E1.length : Int) := by rw [V.2 1 (by omega)]; exact g1
        have v0 : v 23 0 = wrE (s 23 0) n E1 := by rw [V.2 0 (by omega)]; exact g0
        refine ⟨?_, ?_, ?_, fun i hi => ⟨?_, ?_, ?_, ?_⟩, ?_, ?_, ?_, ?_⟩
        · rw [i0, w23, v0, v1, wrE_app]
        · rw [i1, w23, v1]
        · rw [i6, w23, V.2 6 (by omega), g6, u6]
        · rw [i2, w23, V.2 2 (by omega), g2, u2, uA_n _ hi, e23]
        · rw [i3, w23, V.2 3 (by omega), g3', u3, uA_n _ hi, e23]
        · rw [i4, w23, v4, uA_n _ hi, g4, u4, uA_n _ hi, e23]
        · rw [i5 i hi, v5, uA_n _ hi, g5 i hi, u5, uA_n _ hi, e23]
        · rw [i2, w23, V.2 2 (by omega), g2, u2, uA_s]
        · rw [i3, w23, V.2 3 (by omega), g3', u3, uA_s]
        · rw [i4, w23, v4, uA_s]
        · rw [i5', i1, w23, v1]
      rw [wr_id (x := y) (by omega) (by omega)]
      refine ⟨fun z3 => ?_, fun z3 => ?_⟩
      · have y0 : y = 0 := by omega
        refine p_rr_readTest hT (q := a + 1) (by omega) (by omega) SW (by omega) (by omega) (by omega) (fun t r p' c' E i1 i2 i3 i4 i5 => ?_)
        refine h t r p' c' 1 E1 E (GW.trn i1) i2 ⟨0, hx, Or.inr (Or.inr (Or.inl ⟨rfl, zf, rfl, ⟨0, p1, c1, hs, Or.inr ⟨rfl, y, hy, Or.inr ⟨y0, i3⟩⟩⟩⟩))⟩ (fun y1 y2 => ?_) i5
        obtain ⟨j1, j2⟩ := i4 y1 y2
        exact ⟨whole t E j1, j2.1, j2.2.1⟩
      · have y0 : y = -1 := by omega
        refine p_rr_clauseEnd hT SW.1 d1 ?_
        have h := h w2 0 p1 c1 1 E1 [] GW (by omega) ⟨0, hx, Or.inr (Or.inr (Or.inl ⟨rfl, zf, rfl, ⟨0, p1, c1, hs, Or.inr ⟨rfl, y, hy, Or.inl ⟨y0, rfl, rfl, rfl, rfl⟩⟩⟩⟩))⟩ (fun _ y2 => ⟨whole w2 [] (CE.rf SW.own), ?_, SW.2.1⟩) (fun _ => d1)
        · rw [if_pos rfl] at h
          exact h
        · have elt := endF_lt y2 d1.1
          rw [elt] at SW
          exact SW.1
    · have h := h t3 r1 0 0 1 E1 [] (GU.trn f3) rb ⟨0, hx, Or.inr (Or.inr (Or.inl ⟨rfl, zf, rfl, r1, p1, c1, hs, Or.inl ⟨z2, rfl⟩⟩))⟩ (fun w => absurd w z2) (fun w => absurd w z2)
      rw [if_neg z2] at h
      exact h

/-! ===== RULE: the class reads it whole ===== -/
def rdC (T : Int → Int) (N : Int) : Nat → Int → Int → Int → Int → (Nat → Int → Int) → Int → (Nat → Int → Int) → Prop
  | 0, _, _, _, _, _, _, _ => False
  | f + 1, a, p, c, n, D, r, D' => ∃ rc p1 c1 kd E1 E2, clR T N (decide (f = 0)) p c rc p1 c1 kd E1 E2 ∧ ((¬ rc = 0 ∧ r = rc) ∨ (rc = 0 ∧
      ((p1 < N ∧ ¬ T p1 = 59 ∧ r = 1 + 8 * p1 + 0) ∨ (N ≤ p1 ∧ r = 0 ∧ DC D D' a n kd E1 E2) ∨
       (p1 < N ∧ T p1 = 59 ∧ ∃ D1, DC D D1 a n kd E1 E2 ∧ rdC T N f (a + 1) (p1 + 1) c1 (n + (E1.length : Int) + (E2.length : Int)) D1 r D'))))
theorem clR_ok {T : Int → Int} {N : Int} {full : Bool} {p c n p' c' kd : Int} {E1 E2 : List (Int × Int)} (hp : 0 ≤ p ∧ p ≤ N) (hc : 0 ≤ c) (hn : 3 * n ≤ 14 * c) (h : clR T N full p c 0 p' c' kd E1 E2) :
    ¬ full = true ∧ (c + 1 ≤ c' ∧ c' ≤ 60) ∧ 3 * (n + (E1.length : Int) + (E2.length : Int)) ≤ 14 * c' ∧ (0 ≤ p' ∧ p' ≤ N) ∧ sc (blT T) N p' = p' ∧ enA (E1 ++ E2) ∧ (kd = 0 ∨ kd = 1) ∧ (kd = 1 → chk (kds E1) [] = some [false]) ∧ (0 < E2.length → chk (kds E2) [] = some [true]) ∧ (kd = 0 → 0 < E2.length) := by
  have hnb := sc_bd (P := blT T) hp.2
  have hlt := sc_bd (P := ltT T) hnb.2
  have pdm : pd (-1) = 0 := rfl
  obtain ⟨x, hx, h⟩ := h
  rcases h with ⟨_, h⟩ | ⟨_, _, h⟩ | ⟨_, hf, hk, r1, p1, c1, hs, h⟩ | ⟨_, hf, hk, hE, ht⟩
  · omega
  · omega
  · rcases h with ⟨h, h2⟩ | ⟨h0, y, hy, h⟩
    · exact absurd h2.symm h
    · subst h0 hk
      obtain ⟨k1, k2, k3, k4, k5, k6⟩ := smC_ok _ _ _ _ _ _ _ _ (show 0 ≤ sc (ltT T) N (sc (blT T) N p) ∧ sc (ltT T) N (sc (blT T) N p) ≤ N by omega) hc (Or.inl rfl) (Or.inl rfl) hs
      rw [pdm] at k2
      have k6 := k6 [] (by decide)
      rcases h with ⟨_, _, hp', hc', hE⟩ | ⟨_, ht⟩
      · subst hp' hc' hE
        refine ⟨hf, by omega, by show 3 * (n + (E1.length : Int) + ((0 : Nat) : Int)) ≤ _; omega, k3, k4, by rw [List.append_nil]; exact k5, Or.inr rfl, fun _ => k6, fun z => absurd z (by decide), fun z => absurd z (by decide)⟩
      · have hlt2 := sc_bd (P := ltT T) k3.2
        obtain ⟨t1, t2, t3, t4, t5, t6, t7⟩ := teC_ok _ _ _ (n + (E1.length : Int)) [] _ _ _ trivial (by show (0 : Int) ≤ 10; decide) (by omega) (by omega) (by show 3 * (n + (E1.length : Int) + ((0 : Nat) : Int)) ≤ _; omega) ht
        exact ⟨hf, by omega, by omega, t3, t4, enA_app k5 t5, Or.inr rfl, fun _ => k6, fun _ => t6, fun z => absurd z (by decide)⟩
  · subst hk hE
    obtain ⟨t1, t2, t3, t4, t5, t6, t7⟩ := teC_ok _ _ _ n [] _ _ _ trivial (by show (0 : Int) ≤ 10; decide) (show 0 ≤ sc (ltT T) N (sc (blT T) N p) ∧ sc (ltT T) N (sc (blT T) N p) ≤ N by omega) (by omega) (by show 3 * (n + ((0 : Nat) : Int)) ≤ _; omega) ht
    exact ⟨hf, by omega, by show 3 * (n + ((0 : Nat) : Int) + _) ≤ _; omega, t3, t4, t5, Or.inl rfl, fun z => absurd z (by decide), fun _ => t6, fun _ => t7⟩
theorem p_rr_readL {T : Int → Int} {N : Int} {Q : Int → Mem → Prop} (hT : TX T N) :
    ∀ (f : Nat) (a p c n : Int) (s : Mem), a + f = 13 → 1 ≤ f → 0 ≤ a → CXx s T N p → s 22 1 0 = c → s 23 1 0 = n → s 23 6 0 = a → (0 ≤ p ∧ p ≤ N) → (0 ≤ c ∧ c ≤ 60) → (0 ≤ n ∧ 3 * n ≤ 14 * c) →
    (∀ t r D', FR s t → (0 ≤ r ∧ r ≤ 5000) → rdC T N f a p c n (s 23) r D' → (r = 0 → t 23 = D') → Q r t) → K_rr_read_19 Q a s
  | 0, _, _, _, _, _, _, h1, _, _, _, _, _, _, _, _, _ => absurd h1 (by omega)
  | f + 1, a, p, c, n, s, hf, _, a0, hC, h2, h1, h6, hp, hc, hn, h => by
    have hN := hT.1
    refine b_rr_read_19 ?_
    unfold T_rr_read_19 T_rr_read_37
    rw [wr_id (x := a) (by omega) (by omega)]
    have go : T_rr_read_38 Q a (if decide (f = 0) = true then 1 else 0) s := by
      unfold T_rr_read_38 T_rr_read_48 T_rr_read_58
      refine p_rr_readClause hT hC h2 h1 h6 hp hc hn ⟨a0, fun z => by have := of_decide_eq_false (Bool.eq_false_iff.mpr z); omega⟩ (fun t r p' c' kd E1 E2 f1 rb hcl hr hpr => ?_)
      by_cases z : r = 0
      · subst z
        rw [if_pos rfl]
        obtain ⟨q1, q2, q3, q4, q5, q6, q7, q8, q9, q10⟩ := clR_ok hp hc.1 hn.2 hcl
        have eb := endF_bd (T := T) (N := N) (p := p') (by omega) q4.1
        rw [wr_id (x := endF T N p') (by omega) (by omega)]
        refine ⟨fun z2 => ?_, fun z2 => ?_⟩
        · obtain ⟨hD, hC2, hc2⟩ := hr rfl z2
          refine p_tx_peek hT hC2 (by omega) ?_
          have hpk := pk_bd hT (p := p') (by omega)
          rw [wr_id (x := pk T N p') (by omega) (by omega)]
          refine ⟨fun z3 => ?_, fun z3 => ?_⟩
          · have hlt := pkT_lt z3
            have h59 : T p' = 59 := Decidable.byContradiction fun w => by
              unfold endF at z2
              rw [if_pos ⟨hlt, w⟩] at z2
              omega
            refine p_tx_step hC2 (fun u F C3 => ?_)
            have f0 : ¬ f = 0 := fun w => q1 (decide_eq_true w)
            have u23 : u 23 = t 23 := F.1 23 (by omega)
            refine p_rr_readL hT f (a + 1) (p' + 1) c' (n + (E1.length : Int) + (E2.length : Int)) u (by omega) (by omega) (by omega) C3 (by rw [F.1 22 (by omega)]; exact hc2) (by rw [u23]; exact hD.2.1) (by rw [u23]; exact hD.2.2.1) (by omega) (by omega) ⟨by omega, q3⟩ (fun w r D' i1 i2 i3 i4 => ?_)
            rw [u23] at i3
            exact h w r D' (f1.trn ((FR.f1 F).trn i1)) i2 ⟨0, p', c', kd, E1, E2, hcl, Or.inr ⟨rfl, Or.inr (Or.inr ⟨hlt, h59, t 23, hD, i3⟩)⟩⟩ i4
          · have hge : N ≤ p' := Int.not_lt.mp fun w => by
              have e : pk T N p' = T p' := if_pos w
              have := hT.2 p' (by omega) w
              omega
            exact h t 0 (t 23) f1 (by omega) ⟨0, p', c', kd, E1, E2, hcl, Or.inr ⟨rfl, Or.inr (Or.inl ⟨hge, rfl, hD⟩)⟩⟩ (fun _ => rfl)
        · have hb : p' < N ∧ ¬ T p' = 59 := Decidable.byContradiction fun w => z2 (if_neg w)
          have ee : endF T N p' = 1 + 8 * p' + 0 := if_pos hb
          exact h t _ (t 23) f1 (by omega) ⟨0, p', c', kd, E1, E2, hcl, Or.inr ⟨rfl, Or.inl ⟨hb.1, hb.2, ee⟩⟩⟩ (fun w => absurd w z2)
      · rw [if_neg z, wr_id (x := r) (by omega) (by omega)]
        exact br_f z (h t r (t 23) f1 rb ⟨r, p', c', kd, E1, E2, hcl, Or.inl ⟨z, rfl⟩⟩ (fun w => absurd w z))
    refine ⟨fun z => by omega, fun _ => ⟨fun z => ?_, fun z => ?_⟩⟩
    · rw [decide_eq_false (show ¬ f = 0 by omega)] at go
      exact go
    · rw [decide_eq_true (show f = 0 by omega)] at go
      exact go
theorem p_rr_read {T : Int → Int} {N q0 : Int} {s : Mem} {Q : Int → Mem → Prop} (hT : TX T N) (hC : CXx s T N q0)
    (h : ∀ t r D0 D', FR s t → (0 ≤ r ∧ r ≤ 5000) → (D0 1 0 = 0 ∧ D0 6 0 = 0) → rdC T N 13 0 0 0 0 D0 r D' → (r = 0 → t 23 = D') → Q r t) : W_rr_read s Q := by
  have hN := hT.1
  refine w_rr_read (b_rr_read_0 (w_ru_clear (b_ru_clear_0 rfl ?_)))
  intro s1 x1 s2 x2 s3 x3 s4 x4
  obtain ⟨a1, a2, a3⟩ := updM_f x1
  obtain ⟨b1, b2, b3⟩ := updM_f x2
  obtain ⟨c1, c2, c3⟩ := updM_f x3
  obtain ⟨d1, d2, d3⟩ := updM_f x4
  have e1 : s4 23 1 0 = 0 := by rw [d1 23 (by omega), c1 23 (by omega), b2 1 (by omega), a3, uA_s]
  have e6 : s4 23 6 0 = 0 := by rw [d1 23 (by omega), c1 23 (by omega), b3, uA_s]
  refine p_rr_readL hT 13 0 0 0 0 s4 (by omega) (by omega) (by omega) ⟨?_, ?_, by rw [d3, uA_s]⟩ (by rw [d1 22 (by omega), c3, uA_s]) e1 e6 (by omega) (by omega) (by omega) (fun t r D' i1 i2 i3 i4 => h t r (s4 23) D' (FR.trn (fun o ho => by rw [d1 o (by omega), c1 o (by omega), b1 o (by omega), a1 o (by omega)]) i1) i2 ⟨e1, e6⟩ i3 i4)
  · rw [d2 0 (by omega), c1 1 (by omega), b1 1 (by omega), a1 1 (by omega)]; exact hC.1
  · rw [d2 1 (by omega), c1 1 (by omega), b1 1 (by omega), a1 1 (by omega)]; exact hC.2.1
