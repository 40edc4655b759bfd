/-! ===== RULE: the class reads a TEST ===== -/
theorem opC_ok2 {T : Int → Int} {N : Int} : ∀ (f : Nat) (p p' : Int) (l l' : List Int), (0 ≤ p ∧ p ≤ N) → okT l → dep l ≤ 10 → opC T N f p l 0 p' l' → (0 ≤ p' ∧ p' ≤ N) ∧ okT l' ∧ dep l' ≤ 10 ∧ (l'.length : Int) + 1 ≤ (l.length : Int) + f ∧ sc (blT T) N p' = p'
  | 0, _, _, _, _, _, _, _, h => absurd h id
  | f + 1, p, p', l, l', hp, ok, hd, h => by
    have hnb := sc_bd (P := blT T) hp.2
    have hlt := sc_bd (P := ltT T) hnb.2
    rcases h with ⟨_, _, _, h1, h⟩ | ⟨k, pn, hk, ⟨_, h⟩ | ⟨h2, h⟩⟩
    · subst h1 h
      exact ⟨by omega, ok, hd, by omega, sc_sc hp.2⟩
    · omega
    · have hpn : 0 ≤ pn ∧ pn ≤ N := by
        rcases hk with ⟨z, _, z2⟩ | ⟨_, _, _, z2⟩
        · have := pkT_lt (T := T) (N := N) (p := sc (blT T) N p) (by omega)
          omega
        · omega
      have kk : k = 12 ∨ k = 15 := hk.elim (fun z => Or.inr z.2.1) (fun z => Or.inl z.2.2.1)
      have dk : dep (k :: l) = 1 + dep l := by
        show (if k = 12 ∨ k = 15 then (1 : Int) else 0) + dep l = _
        rw [if_pos kk]
      obtain ⟨i1, i2, i3, i4, i5⟩ := opC_ok2 f pn p' (k :: l) l' hpn ⟨ok, kk.elim Or.inl (fun z => Or.inr (Or.inl z))⟩ (by omega) h
      rw [List.length_cons] at i4
      exact ⟨i1, i2, i3, by omega, i5⟩
theorem clsC_ok2 {T : Int → Int} {N : Int} : ∀ (f : Nat) (p p' : Int) (l l' : List Int) (E : List (Int × Int)), okT l → (0 ≤ p ∧ p ≤ N) → clsC T N f p l p' l' E → (0 ≤ p' ∧ p' ≤ N) ∧ okT l' ∧ opn l' ≤ opn l ∧ dep l' ≤ dep l ∧ (E.length : Int) + (l'.length : Int) ≤ (l.length : Int) ∧ sc (blT T) N p' = p' ∧ ∀ r, ¬ l' = 12 :: r
  | 0, _, _, _, _, _, _, _, h => absurd h id
  | f + 1, p, p', l, l', E, ok, hp, h => by
    have hnb := sc_bd (P := blT T) hp.2
    obtain ⟨k1, k2, k3, k4, k5⟩ := puN_ok ok
    rcases h with ⟨h1, h2, z, E2, h3, h4, h5⟩ | ⟨_, h1, h2, h3⟩
    · have hbN := pkT_lt (T := T) (N := N) (p := sc (blT T) N p) (by omega)
      obtain ⟨m1, m2, m3, m4⟩ := puS_ok (a := true) k1
      rw [h3] at m1 m2 m3 m4
      have m2 : (if (15 : Int) = 15 then 1 else 0) + opn z = opn (puN l) := m2
      have m3 : (if (15 : Int) = 12 ∨ (15 : Int) = 15 then 1 else 0) + dep z = dep (puN l) := m3
      rw [if_pos rfl] at m2
      rw [if_pos (Or.inr rfl)] at m3
      rw [List.length_cons] at m4
      obtain ⟨i1, i2, i3, i4, i5, i6, i7⟩ := clsC_ok2 f _ p' z l' E2 m1.1 (by omega) h4
      subst h5
      refine ⟨i1, i2, by omega, by omega, ?_, i6, i7⟩
      rw [List.length_append, List.length_append]
      omega
    · subst h1 h2 h3
      exact ⟨by omega, k1, by omega, k3, by omega, sc_sc hp.2, k5⟩
def faC (T : Int → Int) (N p c r p' c' : Int) (E : List (Int × Int)) : Prop :=
  ∃ r1 p1 c1 E1, smC T N (61 - c).toNat (-1) (-1) p c r1 p1 c1 E1 ∧ ((¬ r1 = 0 ∧ r = r1) ∨ (r1 = 0 ∧ ∃ r2 p2 k, sgC T N p1 c1 r2 p2 k ∧ ((¬ r2 = 0 ∧ r = r2) ∨ (r2 = 0 ∧ ∃ r3 E3, smC T N (61 - (c1 + 1)).toNat (-1) (-1) p2 (c1 + 1) r3 p' c' E3 ∧ ((¬ r3 = 0 ∧ r = r3) ∨ (r3 = 0 ∧ r = 0 ∧ E = (E1 ++ E3) ++ [(k, 0)]))))))
theorem faC_ok {T : Int → Int} {N p c p' c' : Int} {E : List (Int × Int)} (hp : 0 ≤ p ∧ p ≤ N) (hc : 0 ≤ c) (h : faC T N p c 0 p' c' E) : (c + 3 ≤ c' ∧ c' ≤ 60) ∧ (E.length : Int) = 2 * (c' - c) - 3 ∧ (0 ≤ p' ∧ p' ≤ N) ∧ sc (blT T) N p' = p' ∧ enA E ∧ ∀ t : List Bool, t.length ≤ 35 → chk (kds E) t = some (true :: t) := by
  have pdm : pd (-1) = 0 := rfl
  obtain ⟨r1, p1, c1, E1, h1, h⟩ := h
  rcases h with ⟨z, z2⟩ | ⟨z, r2, p2, k, h2, h⟩
  · exact absurd z2.symm z
  · subst z
    obtain ⟨a1, a2, a3, a4, a5, a6⟩ := smC_ok _ _ _ _ _ _ _ _ hp hc (Or.inl rfl) (Or.inl rfl) h1
    rcases h with ⟨z, z2⟩ | ⟨z, r3, E3, h3, h⟩
    · exact absurd z2.symm z
    · subst z
      obtain ⟨b1, b2, b3⟩ := sgC_ok a3 h2
      rcases h with ⟨z, z2⟩ | ⟨z, _, hE⟩
      · exact absurd z2.symm z
      · subst z
        obtain ⟨d1, d2, d3, d4, d5, d6⟩ := smC_ok _ _ _ _ _ _ _ _ b2 (by omega) (Or.inl rfl) (Or.inl rfl) h3
        rw [pdm] at a2 d2
        subst hE
        refine ⟨by omega, ?_, d3, d4, enA_app (enA_app a5 d5) (enA_1 (by omega)), fun t ht => chk_two (chk_two (a6 t (by omega)) (d6 (false :: t) (by rw [List.length_cons]; omega))) (chk_cmp b3)⟩
        rw [List.length_append, List.length_append]
        show ((E1.length + E3.length + 1 : Nat) : Int) = _
        omega
def aow : List (List Int) := [[97, 110, 100], [111, 114]]
def jnk (a : Bool) : Int := if a = true then 14 else 13
def teC (T : Int → Int) (N : Int) : Nat → Int → Int → List Int → Int → Int → Int → List (Int × Int) → Prop
  | 0, _, _, _, _, _, _, _ => False
  | f + 1, p, c, l, r, p', c', E => ∃ ro po lo, opC T N (11 - dep l).toNat p l ro po lo ∧ ((¬ ro = 0 ∧ r = ro) ∨ (ro = 0 ∧ ∃ rf pf cf Ef, faC T N po c rf pf cf Ef ∧ ((¬ rf = 0 ∧ r = rf) ∨ (rf = 0 ∧ ∃ pc lc Ec, clsC T N 11 pf lo pc lc Ec ∧ ∃ x, fw T (sc (ltT T) N pc) pc aow 0 x ∧
      ((x = -1 ∧ r = (if 0 < opn lc then 1 + 8 * pc + 0 else 0) ∧ p' = pc ∧ c' = cf ∧ E = (Ef ++ Ec) ++ enS true lc) ∨
       (∃ a : Bool, x = (if a = true then 1 else 0) ∧ ∃ E5, teC T N f (sc (ltT T) N pc) cf (jnk a :: puS a lc) r p' c' E5 ∧ E = ((Ef ++ Ec) ++ enS a lc) ++ E5))))))
theorem okT_jn {a : Bool} {lc : List Int} (ok : okT lc) (h12 : ∀ r, ¬ lc = 12 :: r) : okT (jnk a :: puS a lc) := by
  have ok2 := (puS_ok (a := a) ok).1
  refine ⟨ok2, ?_⟩
  cases a with
  | true =>
    right; right; right
    refine ⟨rfl, ?_⟩
    rcases puS_top ok h12 with z | ⟨z, z2⟩
    · exact Or.inl z
    · exact Or.inr ⟨z, z2⟩
  | false =>
    right; right; left
    refine ⟨rfl, ?_⟩
    cases lc with
    | nil => exact Or.inl rfl
    | cons x r =>
      show (if x = 13 ∨ (false = true ∧ x = 14) then puS false r else x :: r) = [] ∨ ∃ y z, (if x = 13 ∨ (false = true ∧ x = 14) then puS false r else x :: r) = y :: z ∧ (y = 14 ∨ y = 15)
      rcases ok.2 with q | q | ⟨q, q2⟩ | ⟨q, q2⟩
      · exact absurd (by rw [q]) (h12 r)
      · rw [if_neg (by rintro (w | w); omega; exact absurd w.1 (by decide))]
        exact Or.inr ⟨x, r, rfl, Or.inr q⟩
      · rw [if_pos (Or.inl q)]
        rcases q2 with q2 | ⟨y, z, q2, q3⟩
        · rw [q2]; exact Or.inl rfl
        · subst q2
          refine Or.inr ⟨y, z, ?_, q3⟩
          unfold puS
          rw [if_neg (by rintro (w | w); omega; exact absurd w.1 (by decide))]
      · rw [if_neg (by rintro (w | w); omega; exact absurd w.1 (by decide))]
        exact Or.inr ⟨x, r, rfl, Or.inl q⟩
theorem jn_len {a : Bool} {lc : List Int} (ok : okT lc) : ((jnk a :: puS a lc).length : Int) + ((enS a lc).length : Int) = (lc.length : Int) + 1 ∧ dep (jnk a :: puS a lc) = dep lc ∧ opn (jnk a :: puS a lc) = opn lc := by
  obtain ⟨m1, m2, m3, m4⟩ := puS_ok (a := a) ok
  have hk : jnk a = 13 ∨ jnk a = 14 := by cases a with | true => exact Or.inr rfl | false => exact Or.inl rfl
  refine ⟨by rw [List.length_cons]; omega, ?_, ?_⟩
  · show (if jnk a = 12 ∨ jnk a = 15 then 1 else 0) + dep (puS a lc) = _
    rw [if_neg (by omega)]; omega
  · show (if jnk a = 15 then 1 else 0) + opn (puS a lc) = _
    rw [if_neg (by omega)]; omega
theorem teC_ok {T : Int → Int} {N : Int} : ∀ (f : Nat) (p c n : Int) (l : List Int) (p' c' : Int) (E : List (Int × Int)), okT l → dep l ≤ 10 → (0 ≤ p ∧ p ≤ N) → 0 ≤ c → 3 * (n + (l.length : Int)) ≤ 14 * c + 3 → teC T N f p c l 0 p' c' E →
    (c + 3 ≤ c' ∧ c' ≤ 60) ∧ 3 * (n + (E.length : Int)) ≤ 14 * c' ∧ (0 ≤ p' ∧ p' ≤ N) ∧ sc (blT T) N p' = p' ∧ enA E ∧ chk (kds E) (jnb l) = some [true] ∧ 0 < E.length
  | 0, _, _, _, _, _, _, _, _, _, _, _, _, h => absurd h id
  | f + 1, p, c, n, l, p', c', E, ok, hd, hp, hc, hn, h => by
    have hl := okT_len ok
    obtain ⟨ro, po, lo, h1, h⟩ := h
    rcases h with ⟨z, z2⟩ | ⟨z, rf, pf, cf, Ef, h2, h⟩
    · exact absurd z2.symm z
    · subst z
      obtain ⟨a1, a2, a3, a4, a5⟩ := opC_ok2 _ _ _ _ _ hp ok hd h1
      have aj := opC_ok _ _ _ _ _ hp h1
      rcases h with ⟨z, z2⟩ | ⟨z, pc, lc, Ec, h3, x, hx, h⟩
      · exact absurd z2.symm z
      · subst z
        obtain ⟨b1, b2, b3, b4, b5, b6⟩ := faC_ok a1 hc h2
        obtain ⟨d1, d2, d3, d4, d5, d6, d7⟩ := clsC_ok2 _ _ _ _ _ _ a2 b3 h3
        obtain ⟨e1, e2⟩ := clsC_ok _ _ _ _ _ _ a2 b3 h3
        have h40 := okT_40 a2 a3
        have hj := jnb_len lo
        have cf1 : chk (kds (Ef ++ Ec)) (jnb l) = some (true :: jnb lc) := chk_two (b6 (jnb l) (by rw [← aj]; omega)) (by rw [← aj]; exact e1)
        rcases h with ⟨_, hr, hp', hc', hE⟩ | ⟨a, _, E5, h5, hE⟩
        · subst hp' hc' hE
          obtain ⟨s1, s2⟩ := chk_enS (a := true) d2
          obtain ⟨m1, m2, m3, m4⟩ := puS_ok (a := true) d2
          have ho := okT_len d2
          have hno : ¬ 0 < opn lc := fun w => by rw [if_pos w] at hr; omega
          have htop : puS true lc = [] := by
            rcases puS_top d2 d7 with w | ⟨w, w2⟩
            · exact w
            · rw [w2] at m1 m2
              have := okT_len m1.1
              have m2 : (if (15 : Int) = 15 then 1 else 0) + opn w = opn lc := m2
              rw [if_pos rfl] at m2
              omega
          rw [htop] at s1
          refine ⟨by omega, ?_, d1, d6, enA_app (enA_app b5 e2) s2, chk_two cf1 s1, ?_⟩
          · rw [List.length_append, List.length_append]
            omega
          · rw [List.length_append, List.length_append]
            omega
        · obtain ⟨s1, s2⟩ := chk_enS (a := a) d2
          obtain ⟨j1, j2, j3⟩ := jn_len (a := a) d2
          have hlt := sc_bd (P := ltT T) d1.2
          have jb : jnb (jnk a :: puS a lc) = true :: jnb (puS a lc) := by
            show (if jnk a = 13 ∨ jnk a = 14 then true :: jnb (puS a lc) else jnb (puS a lc)) = _
            rw [if_pos (by cases a with | true => exact Or.inr rfl | false => exact Or.inl rfl)]
          obtain ⟨i1, i2, i3, i4, i5, i6, i7⟩ := teC_ok f _ cf (n + (((Ef ++ Ec) ++ enS a lc).length : Int)) _ p' c' E5 (okT_jn d2 d7) (by omega) (by omega) (by omega) (by rw [List.length_append, List.length_append]; omega) h5
          rw [jb] at i6
          subst hE
          refine ⟨by omega, ?_, i3, i4, enA_app (enA_app (enA_app b5 e2) s2) i5, chk_two (chk_two cf1 s1) i6, ?_⟩
          · rw [List.length_append]
            omega
          · rw [List.length_append]
            omega
def endF (T : Int → Int) (N p : Int) : Int := if p < N ∧ ¬ T p = 59 then 1 + 8 * p + 0 else 0
theorem p_rr_clauseEnd {p : Int} {s : Mem} {T : Int → Int} {N p2 : Int} {Q : Int → Mem → Prop} (hT : TX T N) (hC : CXx s T N p2) (hp : 0 ≤ p ∧ p ≤ N) (h : Q (endF T N p) s) : W_rr_clauseEnd p s Q := by
  obtain ⟨h1, h2⟩ := hT
  obtain ⟨c1, c2, c3⟩ := hC
  unfold endF at h
  refine w_rr_clauseEnd (b_rr_clauseEnd_0 (w_tx_byteAt (b_tx_byteAt_0 ?_)))
  unfold T_tx_byteAt_0 T_tx_byteAt_21 T_tx_byteAt_22
  rw [wr_id (x := p) (by omega) (by omega), c1, c2, wr_id (x := N) (by omega) (by omega)]
  refine ⟨fun z => by omega, fun _ => ⟨fun z => ?_, fun z => ⟨by omega, ?_⟩⟩⟩
  · rw [if_neg (by omega)] at h
    exact ⟨fun _ => h, fun w => absurd (by decide) w⟩
  · have hb := h2 p (by omega) (by omega)
    dsimp only
    rw [wr_id (x := T p) (by omega) (by omega)]
    refine ⟨fun w => by omega, fun _ => ⟨fun w => p_tx_fault ?_, fun w => ?_⟩⟩
    · rw [if_pos ⟨by omega, w⟩] at h
      exact h
    · rw [if_neg (fun y => y.2 (Decidable.byContradiction w))] at h
      exact h
theorem endF_bd {T : Int → Int} {N p : Int} (hN : N ≤ 400) (hp : 0 ≤ p) : 0 ≤ endF T N p ∧ endF T N p ≤ 5000 := by
  unfold endF
  split <;> omega
theorem endF_lt {T : Int → Int} {N p : Int} (h : endF T N p = 0) (hp : 0 ≤ p) : sc (ltT T) N p = p := sc_0 (fun z => by
  have := decide_eq_true_iff.mp z.2
  unfold endF at h
  rw [if_pos ⟨z.1, by omega⟩] at h
  omega)
theorem p_rr_readTestL {T : Int → Int} {N q : Int} {Q : Int → Mem → Prop} (hT : TX T N) (hq : 1 ≤ q ∧ q ≤ 12) :
    ∀ (f : Nat) (a p c n : Int) (l : List Int) (s : Mem), 61 ≤ c + f → 0 ≤ a → a ≤ c → c ≤ 60 → okT l → dep l ≤ 10 → CS s T N p c n q → (0 ≤ p ∧ p ≤ N) → ST s l → 0 ≤ n → 3 * (n + (l.length : Int)) ≤ 14 * c + 3 →
    (∀ t r p' c' E, FR s t → (0 ≤ r ∧ r ≤ 5000) → teC T N f p c l r p' c' E → (r = 0 → endF T N p' = 0 → CE s t E ∧ CS t T N p' c' (n + (E.length : Int)) q) → (r = 0 → 0 ≤ p' ∧ p' ≤ N) → Q (if r = 0 then endF T N p' else r) t) → K_rr_readTest_17 Q a s
  | 0, _, _, _, _, _, _, _, _, _, _, _, _, _, _, _, _, _, _ => by omega
  | f + 1, a, p, c, n, l, s, hf, a0, ac, hc, ok, hd, hS, hp, hs, hn0, hn, h => by
    have hN := hT.1
    have hl := okT_len ok
    refine b_rr_readTest_17 ?_
    unfold T_rr_readTest_17
    rw [wr_id (x := a) (by omega) (by omega)]
    refine ⟨fun z => by omega, fun _ => w_rr_readOpenings (b_rr_readOpenings_0 ?_)⟩
    have bad : ∀ t r, FR s t → (0 ≤ r ∧ r ≤ 5000) → ¬ r = 0 → (∀ p' c' E, teC T N (f + 1) p c l r p' c' E) → Q r t := fun t r f1 rb z ht => by
      have h := h t r 0 0 [] f1 rb (ht 0 0 []) (fun w => absurd w z) (fun w => absurd w z)
      rw [if_neg z] at h
      exact h
    refine p_rr_readOpenings (n := n) (c := c) (q := q) hT (11 - dep l).toNat 0 p l s (by omega) hd (by omega) (by omega) ok hS hp hs (fun t1 ro po lo f1 rb ho hr => ?_)
    unfold T_rr_readTest_39 T_rr_readTest_49 T_rr_readTest_59
    have wro : wr ro = ro := wr_id (by omega) (by omega)
    rw [wro]
    refine ⟨fun z => br_t z (br_t z (br_f z (bad t1 ro f1 rb z (fun p' c' E => ⟨ro, po, lo, ho, Or.inl ⟨z, rfl⟩⟩)))), fun z => ?_⟩
    have z := Decidable.byContradiction z
    subst z
    obtain ⟨E1, S1, T1, b1, b2, b3, _, b5⟩ := hr rfl
    have hlo := (opC_ok2 _ _ _ _ _ hp ok hd ho).2.2.2.1
    have h32 := okT_40 b2 b3
    refine p_rr_readSum hT hq S1 b1 (by omega) (by omega) (fun t2 r1 p1 c1 e1 f2 g2 rb2 hs1 hr2 => ?_)
    rw [wr_id (x := r1) (by omega) (by omega)]
    refine ⟨fun z => br_t z (br_f z (bad t2 r1 (f1.trn f2) rb2 z (fun p' c' E => ⟨0, po, lo, ho, Or.inr ⟨rfl, r1, 0, 0, [], ⟨r1, p1, c1, e1, hs1, Or.inl ⟨z, rfl⟩⟩, Or.inl ⟨z, rfl⟩⟩⟩))), fun z => ?_⟩
    have z := Decidable.byContradiction z
    subst z
    obtain ⟨E2, S2, d1, d2⟩ := hr2 rfl
    have T2 := T1.w g2.w
    obtain ⟨k1, k2, k3, k4, k5, k6⟩ := smC_ok _ _ _ _ _ _ _ _ b1 (by omega) (Or.inl rfl) (Or.inl rfl) hs1
    have pdm : pd (-1) = 0 := rfl
    rw [pdm] at k2
    refine p_rr_readSign hT S2 d1 k4 (by omega) (fun t3 r2 p2 k f3 g3 rb3 hsg hr3 => ?_)
    rw [wr_id (x := r2) (by omega) (by omega)]
    refine ⟨fun z => br_f z (bad t3 r2 ((f1.trn f2).trn f3) rb3 z (fun p' c' E => ⟨0, po, lo, ho, Or.inr ⟨rfl, r2, 0, 0, [], ⟨0, p1, c1, e1, hs1, Or.inr ⟨rfl, r2, p2, k, hsg, Or.inl ⟨z, rfl⟩⟩⟩, Or.inl ⟨z, rfl⟩⟩⟩)), fun z => ?_⟩
    have z := Decidable.byContradiction z
    subst z
    obtain ⟨E3, S3, e3⟩ := hr3 rfl
    have T3 := T2.w g3
    obtain ⟨m1, m2, m3⟩ := sgC_ok d1 hsg
    refine p_rr_readSum hT hq S3 m2 (by omega) (by omega) (fun t4 r3 p3 c3 e4 f4 g4 rb4 hs3 hr4 => ?_)
    rw [wr_id (x := r3) (by omega) (by omega)]
    refine ⟨fun z => ?_, fun z => bad t4 r3 (((f1.trn f2).trn f3).trn f4) rb4 z (fun p' c' E => ⟨0, po, lo, ho, Or.inr ⟨rfl, r3, p3, c3, [], ⟨0, p1, c1, e1, hs1, Or.inr ⟨rfl, 0, p2, k, hsg, Or.inr ⟨rfl, r3, e4, hs3, Or.inl ⟨z, rfl⟩⟩⟩⟩, Or.inl ⟨z, rfl⟩⟩⟩)⟩
    subst z
    obtain ⟨E4, S4, d3, d4⟩ := hr4 rfl
    have T4 := T3.w g4.w
    obtain ⟨l1, l2, l3, l4, l5, l6⟩ := smC_ok _ _ _ _ _ _ _ _ m2 (by omega) (Or.inl rfl) (Or.inl rfl) hs3
    rw [pdm] at l2
    have hfa : faC T N po c 0 p3 c3 ((e1 ++ e4) ++ [(k, 0)]) := ⟨0, p1, c1, e1, hs1, Or.inr ⟨rfl, 0, p2, k, hsg, Or.inr ⟨rfl, 0, e4, hs3, Or.inr ⟨rfl, rfl, rfl⟩⟩⟩⟩
    have E14 : CE s t4 (e1 ++ e4) := by
      have e := ((E1.tr E2).tr E3).tr E4
      rw [List.nil_append, List.append_nil] at e
      exact e
    have G4 : FR s t4 := ((f1.trn f2).trn f3).trn f4
    have r223 : t4 22 2 0 = k := by rw [g4 2 (by omega) (by omega)]; exact e3
    unfold T_rr_readTest_65
    rw [r223]
    refine p_ru_append S4 (by omega) hq (fun t5 F5 E5 S5 => w_rr_closeBrackets (b_rr_closeBrackets_0 ?_))
    have T5 : ST t5 lo := T4.w (FWt.f1 F5 (by omega))
    have G5 : FR s t5 := G4.trn (fun o ho => F5.1 o (by omega))
    have E5 : CE s t5 ((e1 ++ e4) ++ [(k, 0)]) := E14.tr E5
    have hdep := okT_len b2
    refine p_rr_closeBrackets hT hq 11 0 p3 _ lo t5 (by omega) (by omega) (by omega) b2 S5 d3 T5 (by omega) (by omega) (fun t6 pc lc Ec G6 hcl E6 S6 T6 n1 n2 n3 n4 n5 n6 n7 => ?_)
    have E6 : CE s t6 (((e1 ++ e4) ++ [(k, 0)]) ++ Ec) := E5.tr E6
    have G6 : FR s t6 := G5.trn G6
    have hlt := sc_bd (P := ltT T) n1.2
    refine p_tx_next hT S6.1 n1 (fun t7 F7 C7 => ?_)
    rw [n6] at C7 ⊢
    refine p_tx_readWord (ws := aow) rfl rfl (by decide) (by intro z; cases z) (by decide) hT C7 n1 (fun t8 x F8 C8 hx => ?_)
    have F78 := F7.tr F8
    have S8 := S6.mv F78 C8
    have T8 : ST t8 lc := T6.w (FWt.f1 F78 (by omega))
    have G8 : FR s t8 := G6.trn (FR.f1 F78)
    have E8 : CE s t8 (((e1 ++ e4) ++ [(k, 0)]) ++ Ec) := by
      have e := E6.tr (CE.mv S6 F78)
      rw [List.append_nil] at e
      exact e
    have hxb := fw_bd (by omega) hx
    have hxb : x = -1 ∨ x = 0 ∨ x = 1 := hxb.elim Or.inl (fun z => Or.inr (by have : aow.length = 2 := rfl; omega))
    -- another FACT behind a join
    have more : ∀ b : Bool, x = (if b = true then 1 else 0) → W_rr_settle (if b = true then 1 else 0) t8 (fun s1 => (¬ x = 1 → W_rr_hold 13 s1 (fun s1 => K_rr_readTest_17 Q (a + 1) s1)) ∧ (¬ (¬ x = 1) → W_rr_hold 14 s1 (fun s1 => K_rr_readTest_17 Q (a + 1) s1))) := fun b hxe => by
      refine w_rr_settle (b_rr_settle_0 ?_)
      unfold T_rr_settle_0
      rw [T8.1]
      refine p_rr_settle hq lc _ t8 n2 S8 T8 (by omega) (by omega) (fun u Fu Eu Su Tu _ => ?_)
      obtain ⟨j1, j2, j3⟩ := jn_len (a := b) n2
      rw [List.length_cons] at j1
      have key : W_rr_hold (jnk b) u (fun s1 => K_rr_readTest_17 Q (a + 1) s1) → (¬ x = 1 → W_rr_hold 13 u (fun s1 => K_rr_readTest_17 Q (a + 1) s1)) ∧ (¬ (¬ x = 1) → W_rr_hold 14 u (fun s1 => K_rr_readTest_17 Q (a + 1) s1)) := fun hk => by
        cases b with
        | true => exact ⟨fun z => absurd hxe z, fun _ => hk⟩
        | false => exact ⟨fun _ => hk, fun z => absurd (fun w : x = 1 => by rw [hxe] at w; exact absurd w (by decide)) z⟩
      refine key (p_rr_hold (by omega) Tu.1 Tu.2.2.2 (fun w Fw w5 w4 => ?_))
      have hj : jnk b = 13 ∨ jnk b = 14 := by cases b with | true => exact Or.inr rfl | false => exact Or.inl rfl
      have Tw : ST w (jnk b :: puS b lc) := by
        refine ⟨w5, ?_, ?_, w4⟩
        · rw [Fw.2 5 (by omega), Tu.2.1]
          show _ = (if jnk b = 15 then 1 else 0) + opn (puS b lc)
          rw [if_neg (by omega)]; omega
        · rw [Fw.2 6 (by omega), Tu.2.2.1]
          show _ = (if jnk b = 12 ∨ jnk b = 15 then 1 else 0) + dep (puS b lc)
          rw [if_neg (by omega)]; omega
      have Sw : CS w T N (sc (ltT T) N pc) c3 (n + (e1.length : Int) + (e4.length : Int) + 1 + (Ec.length : Int) + ((enS b lc).length : Int)) q := by
        obtain ⟨q1, q2, q3, q4, q5⟩ := Su
        exact ⟨⟨by rw [Fw.1 1 (by omega)]; exact q1.1, by rw [Fw.1 1 (by omega)]; exact q1.2.1, by rw [Fw.1 1 (by omega)]; exact q1.2.2⟩, by rw [Fw.2 1 (by omega)]; exact q2, by rw [Fw.1 23 (by omega)]; exact q3, by rw [Fw.1 23 (by omega)]; exact q4, by rw [Fw.1 23 (by omega)]; exact q5⟩
      refine p_rr_readTestL hT hq f (a + 1) _ c3 _ _ w (by omega) (by omega) (by omega) (by omega) (okT_jn n2 n7) (by omega) Sw (by omega) Tw (by omega) (by rw [List.length_cons]; omega) (fun t r p' c' E i1 i2 i3 i4 i5 => ?_)
      refine h t r p' c' (((((e1 ++ e4) ++ [(k, 0)]) ++ Ec) ++ enS b lc) ++ E) ((G8.trn Fu).trn (FR.trn (fun o ho => Fw.1 o (by omega)) i1)) i2 ⟨0, po, lo, ho, Or.inr ⟨rfl, 0, p3, c3, _, hfa, Or.inr ⟨rfl, pc, lc, Ec, hcl, x, hx, Or.inr ⟨b, hxe, E, i3, rfl⟩⟩⟩⟩ (fun z1 z2 => ?_) i5
      obtain ⟨y1, y2⟩ := i4 z1 z2
      refine ⟨(E8.tr Eu).tr ?_, ?_⟩
      · unfold CE at y1
        rw [Fw.1 23 (by omega)] at y1
        exact y1
      · rw [List.length_append, List.length_append, List.length_append, List.length_append, List.length_append]
        rw [show n + ((e1.length + e4.length + [(k, (0 : Int))].length + Ec.length + (enS b lc).length + E.length : Nat) : Int) = n + (e1.length : Int) + (e4.length : Int) + 1 + (Ec.length : Int) + ((enS b lc).length : Int) + (E.length : Int) by show n + ((e1.length + e4.length + 1 + Ec.length + (enS b lc).length + E.length : Nat) : Int) = _; omega]
        exact y2
    rw [wr_id (x := x) (by omega) (by omega)]
    refine ⟨fun z => ?_, fun z => ?_⟩
    · unfold T_rr_readTest_131 T_rr_readTest_142 T_rr_readTest_143 T_rr_readTest_158 T_rr_readTest_160
      rw [wr_id (x := x) (by omega) (by omega)]
      refine ⟨fun z1 => ?_, fun z1 => ?_⟩
      · exact more false (by show x = 0; omega)
      · exact more true (by show x = 1; omega)
    · have z := Decidable.byContradiction z
      refine w_rr_settle (b_rr_settle_0 ?_)
      unfold T_rr_settle_0
      rw [T8.1]
      refine p_rr_settle (a := true) hq lc _ t8 n2 S8 T8 (by omega) (by omega) (fun u Fu Eu Su Tu _ => ?_)
      obtain ⟨y1, y2, y3, y4⟩ := puS_ok (a := true) n2
      have ho6 := Tu.2.1
      have hol := okT_len n2
      rw [y2] at ho6
      rw [ho6, wr_id (x := opn lc) (by omega) (by omega)]
      have hte : ∀ rr, rr = (if 0 < opn lc then 1 + 8 * pc + 0 else 0) → teC T N (f + 1) p c l rr pc c3 ((((e1 ++ e4) ++ [(k, 0)]) ++ Ec) ++ enS true lc) := fun rr er => ⟨0, po, lo, ho, Or.inr ⟨rfl, 0, p3, c3, _, hfa, Or.inr ⟨rfl, pc, lc, Ec, hcl, x, hx, Or.inl ⟨z, er, rfl, rfl, rfl⟩⟩⟩⟩
      refine ⟨fun z1 => ?_, fun z1 => p_tx_fault ?_⟩
      · unfold T_rr_readTest_123 T_rr_readTest_130
        refine p_rr_clauseEnd hT Su.1 n1 ?_
        have h := h u 0 pc c3 _ (G8.trn Fu) (by omega) (hte 0 (by rw [if_neg (by omega)])) (fun _ z2 => ⟨E8.tr Eu, ?_⟩) (fun _ => n1)
        · rw [if_pos rfl] at h
          exact h
        · have elt := endF_lt z2 n1.1
          rw [elt] at Su
          rw [List.length_append, List.length_append, List.length_append, List.length_append]
          rw [show n + ((e1.length + e4.length + [(k, (0 : Int))].length + Ec.length + (enS true lc).length : Nat) : Int) = n + (e1.length : Int) + (e4.length : Int) + 1 + (Ec.length : Int) + ((enS true lc).length : Int) by show n + ((e1.length + e4.length + 1 + Ec.length + (enS true lc).length : Nat) : Int) = _; omega]
          exact Su
      · have h := h u (1 + 8 * pc + 0) pc c3 _ (G8.trn Fu) (by omega) (hte _ (by rw [if_pos (by omega)])) (fun w => by omega) (fun _ => n1)
        rw [if_neg (by omega)] at h
        exact h
