/-! ===== RULE: signs, openings, what waits ===== -/
def sgE (T : Int → Int) (N p : Int) : Prop := ¬ pk T N p = 61 ∧ pk T N (p + 1) = 61
def sgC (T : Int → Int) (N p c r p' k : Int) : Prop :=
  (¬ (pk T N p = 60 ∨ pk T N p = 61 ∨ pk T N p = 62) ∧ r = 1 + 8 * p + 0) ∨
  ((pk T N p = 60 ∨ pk T N p = 61 ∨ pk T N p = 62) ∧ ((60 ≤ c ∧ r = 1 + 8 * p + 3) ∨ (c < 60 ∧ r = 0 ∧
    ((sgE T N p ∧ p' = p + 1 + 1 ∧ k = (if pk T N p = 60 then 8 else 10)) ∨ (¬ sgE T N p ∧ p' = p + 1 ∧ k = (if pk T N p = 60 then 7 else if pk T N p = 61 then 9 else 11))))))
theorem pkT_lt {T : Int → Int} {N p : Int} (h : ¬ pk T N p = -1) : p < N := Decidable.byContradiction fun z => h (if_neg z)
theorem sgC_ok {T : Int → Int} {N p c p' k : Int} (hp : 0 ≤ p ∧ p ≤ N) (h : sgC T N p c 0 p' k) : c < 60 ∧ (0 ≤ p' ∧ p' ≤ N) ∧ (7 ≤ k ∧ k ≤ 11) := by
  rcases h with ⟨_, h⟩ | ⟨h1, ⟨_, h⟩ | ⟨h2, _, ⟨h3, h4, h5⟩ | ⟨h3, h4, h5⟩⟩⟩
  · omega
  · omega
  · have := pkT_lt (T := T) (N := N) (p := p + 1) (by rw [h3.2]; decide)
    refine ⟨h2, by omega, ?_⟩
    split at h5 <;> omega
  · have := pkT_lt (T := T) (N := N) (p := p) (by omega)
    refine ⟨h2, by omega, ?_⟩
    (repeat' split at h5) <;> omega
theorem p_rr_readSign {s : Mem} {T : Int → Int} {N p c n q : Int} {Q : Int → Mem → Prop} (hT : TX T N) (hS : CS s T N p c n q) (hp : 0 ≤ p ∧ p ≤ N) (hb : sc (blT T) N p = p) (hc : 0 ≤ c ∧ c ≤ 60)
    (h : ∀ t r p' k, FR s t → FWt s t → (0 ≤ r ∧ r ≤ 5000) → sgC T N p c r p' k → (r = 0 → CE s t [] ∧ CS t T N p' (c + 1) n q ∧ t 22 2 0 = k) → Q r t) : W_rr_readSign s Q := by
  obtain ⟨h1, h2, h3, h4, h5⟩ := id hS
  have hN := hT.1
  refine w_rr_readSign (b_rr_readSign_0 (p_tx_next hT h1 hp (fun t1 F1 C1 => ?_)))
  rw [hb] at C1 ⊢
  refine p_tx_peek hT C1 (by omega) ?_
  have hpk := pk_bd hT (p := p) (by omega)
  have S1 := hS.mv F1 C1
  unfold T_rr_readSign_34
  unfold sgC at h
  generalize hx : pk T N p = x at h hpk ⊢
  have e22 : t1 22 = s 22 := F1.1 22 (by omega)
  rw [wr_id (x := x) (by omega) (by omega), e22, h2, wr_id (x := c) (by omega) (by omega)]
  have go : (x = 60 ∨ x = 61 ∨ x = 62) → (c < 60 → T_rr_readSign_49 Q x t1) ∧ (¬ (c < 60) → W_tx_fault p 3 t1 (fun r3 s2 => Q r3 s2)) := fun z => by
    refine ⟨fun z2 => ?_, fun z2 => p_tx_fault (h t1 _ 0 0 (FR.f1 F1) (FWt.f1 F1 (by omega)) (by omega) (Or.inr ⟨z, Or.inl ⟨by omega, rfl⟩⟩) (fun w => by omega))⟩
    have hpN := pkT_lt (T := T) (N := N) (p := p) (by omega)
    unfold T_rr_readSign_49
    intro s1 x1
    obtain ⟨a1, a2, a3⟩ := updM_f x1
    have C2 : CXx s1 T N p := ⟨by rw [a1 1 (by omega)]; exact C1.1, by rw [a1 1 (by omega)]; exact C1.2.1, by rw [a1 1 (by omega)]; exact C1.2.2⟩
    refine p_tx_step C2 (fun t2 F2 C3 => ?_)
    have t2o : ∀ o, ¬ (o = 1 ∨ o = 22) → t2 o = s o := fun o ho => by rw [F2.1 o (by omega), a1 o (by omega), F1.1 o (by omega)]
    have t22 : ∀ j, ¬ j = 1 → t2 22 j = s 22 j := fun j hj => by rw [F2.1 22 (by omega), a2 j hj, e22]
    have t222 : t2 22 1 0 = c + 1 := by rw [F2.1 22 (by omega), a3, uA_s, e22, h2]
    -- behind the sign
    have fin : ∀ (u w : Mem) (p' k : Int), FrJ 1 (fun j => j = 2) t2 u → CXx u T N p' → w = updM u 22 2 0 k → sgC T N p c 0 p' k → Q 0 w := fun u w p' k G C xw hg => by
      obtain ⟨b1, b2, b3⟩ := updM_f xw
      unfold sgC at hg
      rw [hx] at hg
      have w23 : w 23 = s 23 := by rw [b1 23 (by omega), G.1 23 (by omega), t2o 23 (by omega)]
      refine h w 0 p' k (fun o ho => by rw [b1 o (by omega), G.1 o (by omega), t2o o (by omega)]) (fun j j0 j1 => by rw [b2 j (by omega), G.1 22 (by omega), t22 j (by omega)]) (by omega) hg (fun _ => ⟨CE.eq hS.own w23, ⟨⟨by rw [b1 1 (by omega)]; exact C.1, by rw [b1 1 (by omega)]; exact C.2.1, by rw [b1 1 (by omega)]; exact C.2.2⟩, by rw [b2 1 (by omega), G.1 22 (by omega), t222], by rw [w23]; exact h3, by rw [w23]; exact h4, by rw [w23]; exact h5⟩, by rw [b3, uA_s]⟩)
    have fin0 : ¬ sgE T N p → T_rr_readSign_82 Q x t2 := fun hn => by
      unfold T_rr_readSign_82 T_rr_readSign_83 T_rr_readSign_94 T_rr_readSign_111 T_rr_readSign_113 T_rr_readSign_119 T_rr_readSign_136 T_rr_readSign_138 T_rr_readSign_144 T_rr_readSign_150
      rw [wr_id (x := x) (by omega) (by omega)]
      have fk : ∀ k w, w = updM t2 22 2 0 k → k = (if x = 60 then 7 else if x = 61 then 9 else 11) → Q 0 w := fun k w xw ek => fin t2 w _ k FrJ.rf C3 xw (by
        unfold sgC
        rw [hx]
        exact Or.inr ⟨z, Or.inr ⟨z2, rfl, Or.inr ⟨hn, rfl, ek⟩⟩⟩)
      refine ⟨fun _ => ⟨fun y => ⟨fun y2 w xw => fk 9 w xw ?_, fun y2 => ⟨fun _ w xw => fk 11 w xw ?_, fun y3 => absurd (by decide) y3⟩⟩, fun y => ⟨fun _ w xw => fk 7 w xw ?_, fun y3 => absurd (by decide) y3⟩⟩, fun y => absurd (by decide) y⟩
      · rw [if_neg y, if_pos (by omega)]
      · rw [if_neg y, if_neg (by omega)]
      · rw [if_pos (by omega)]
    have wx : wr x = x := wr_id (by omega) (by omega)
    rw [wx]
    refine ⟨fun y => fin0 (fun w => w.1 (by rw [hx]; exact y)), fun y => p_tx_peek hT C3 (by omega) ?_⟩
    have hpk2 := pk_bd hT (p := p + 1) (by omega)
    rw [wr_id (x := pk T N (p + 1)) (by omega) (by omega)]
    refine ⟨fun y2 => fin0 (fun w => y2 w.2), fun y2 => ?_⟩
    have y2 := Decidable.byContradiction y2
    have hs : sgE T N p := ⟨by rw [hx]; exact y, y2⟩
    unfold T_rr_readSign_83 T_rr_readSign_94 T_rr_readSign_111 T_rr_readSign_113 T_rr_readSign_119 T_rr_readSign_136 T_rr_readSign_138 T_rr_readSign_144 T_rr_readSign_150
    rw [wx]
    refine ⟨fun y3 => absurd y3 (by decide), fun _ => p_tx_step C3 (fun u G C4 => ?_)⟩
    have fk : ∀ k w, w = updM u 22 2 0 k → k = (if x = 60 then 8 else 10) → Q 0 w := fun k w xw ek => fin u w _ k G C4 xw (by
      unfold sgC
      rw [hx]
      exact Or.inr ⟨z, Or.inr ⟨z2, rfl, Or.inl ⟨hs, rfl, ek⟩⟩⟩)
    refine ⟨fun y3 => ⟨fun y4 => by omega, fun y4 => ⟨fun y5 => absurd y5 (by decide), fun _ w xw => fk 10 w xw (by rw [if_neg y3])⟩⟩, fun y3 => ⟨fun y5 => absurd y5 (by decide), fun _ w xw => fk 8 w xw (by rw [if_pos (by omega)])⟩⟩
  refine ⟨fun z => go (by omega), fun z => ⟨fun z2 => go (by omega), fun z2 => ⟨fun z3 => go (by omega), fun z3 => p_tx_fault ?_⟩⟩⟩
  exact h t1 _ 0 0 (FR.f1 F1) (FWt.f1 F1 (by omega)) (by omega) (Or.inl ⟨by omega, rfl⟩) (fun w => by omega)
/-! what waits: the top first -/
def stk (f : Int → Int) : List Int → Prop
  | [] => True
  | x :: r => f (r.length : Int) = x ∧ stk f r
def opn : List Int → Int
  | [] => 0
  | x :: r => (if x = 15 then 1 else 0) + opn r
def dep : List Int → Int
  | [] => 0
  | x :: r => (if x = 12 ∨ x = 15 then 1 else 0) + dep r
def okT : List Int → Prop
  | [] => True
  | x :: r => okT r ∧ (x = 12 ∨ x = 15 ∨ (x = 13 ∧ (r = [] ∨ ∃ y z, r = y :: z ∧ (y = 14 ∨ y = 15))) ∨ (x = 14 ∧ (r = [] ∨ ∃ z, r = 15 :: z)))
def tpx : List Int → Int
  | [] => 0
  | x :: _ => if x = 13 then 2 else if x = 14 then 1 else 0
theorem okT_len : ∀ {l : List Int}, okT l → (l.length : Int) ≤ 3 * dep l + tpx l ∧ 0 ≤ opn l ∧ opn l ≤ dep l
  | [], _ => by show ((0 : Nat) : Int) ≤ 3 * 0 + 0 ∧ (0 : Int) ≤ 0 ∧ (0 : Int) ≤ 0; omega
  | x :: r, h => by
    have ih := okT_len h.1
    have hr : tpx r ≤ 2 := by
      cases r with
      | nil => show (0 : Int) ≤ 2; decide
      | cons y z => show (if y = 13 then (2 : Int) else if y = 14 then 1 else 0) ≤ 2; split <;> (try split) <;> omega
    show ((r.length + 1 : Nat) : Int) ≤ 3 * ((if x = 12 ∨ x = 15 then 1 else 0) + dep r) + (if x = 13 then 2 else if x = 14 then 1 else 0) ∧ 0 ≤ (if x = 15 then 1 else 0) + opn r ∧ (if x = 15 then 1 else 0) + opn r ≤ (if x = 12 ∨ x = 15 then 1 else 0) + dep r
    rcases h.2 with q | q | ⟨q, q2⟩ | ⟨q, q2⟩
    · subst q
      rw [if_pos (Or.inl rfl), if_neg (by decide), if_neg (by decide), if_neg (by decide)]
      omega
    · subst q
      rw [if_pos (Or.inr rfl), if_neg (by decide), if_neg (by decide), if_pos rfl]
      omega
    · subst q
      rw [if_neg (by decide), if_pos rfl, if_neg (by decide)]
      rcases q2 with q2 | ⟨y, z, q2, q3⟩
      · subst q2
        show ((0 + 1 : Nat) : Int) ≤ 3 * (0 + 0) + 2 ∧ (0 : Int) ≤ 0 + 0 ∧ (0 : Int) + 0 ≤ 0 + 0
        omega
      · subst q2
        have e : tpx (y :: z) = (if y = 13 then 2 else if y = 14 then 1 else 0) := rfl
        rw [e, if_neg (by omega)] at ih
        split at ih <;> omega
    · subst q
      rw [if_neg (by decide), if_neg (by decide), if_pos rfl, if_neg (by decide)]
      rcases q2 with q2 | ⟨z, q2⟩
      · subst q2
        show ((0 + 1 : Nat) : Int) ≤ 3 * (0 + 0) + 1 ∧ (0 : Int) ≤ 0 + 0 ∧ (0 : Int) + 0 ≤ 0 + 0
        omega
      · subst q2
        have e : tpx (15 :: z) = 0 := rfl
        rw [e] at ih
        omega
theorem okT_40 {l : List Int} (h : okT l) (hd : dep l ≤ 10) : (l.length : Int) ≤ 32 := by
  have h1 := okT_len h
  have hr : tpx l ≤ 2 := by
    cases l with
    | nil => show (0 : Int) ≤ 2; decide
    | cons y z => show (if y = 13 then (2 : Int) else if y = 14 then 1 else 0) ≤ 2; split <;> (try split) <;> omega
  omega
theorem stk_up {f g : Int → Int} : ∀ {l : List Int}, stk f l → (∀ k, 0 ≤ k → k < (l.length : Int) → g k = f k) → stk g l
  | [], _, _ => trivial
  | x :: r, h, e => by
    have hl : (((x :: r).length : Nat) : Int) = (r.length : Int) + 1 := by rw [List.length_cons]; omega
    rw [hl] at e
    exact ⟨by rw [e _ (by omega) (by omega)]; exact h.1, stk_up h.2 (fun k k0 k1 => e k k0 (by omega))⟩
def ST (s : Mem) (l : List Int) : Prop := s 22 4 0 = (l.length : Int) ∧ s 22 5 0 = opn l ∧ s 22 6 0 = dep l ∧ stk (s 22 3) l
theorem ST.w {s t : Mem} {l : List Int} (h : ST s l) (e : FWt s t) : ST t l := by
  unfold ST
  rw [e 3 (by omega) (by omega), e 4 (by omega) (by omega), e 5 (by omega) (by omega), e 6 (by omega) (by omega)]
  exact h
theorem p_rr_hold {k : Int} {s : Mem} {l : List Int} {Q : Mem → Prop} (hl : (l.length : Int) < 40) (h5 : s 22 4 0 = (l.length : Int)) (hs : stk (s 22 3) l) (h : ∀ t, FrJ 22 (fun j => j = 3 ∨ j = 4) s t → t 22 4 0 = ((k :: l).length : Int) → stk (t 22 3) (k :: l) → Q t) : W_rr_hold k s Q := by
  refine w_rr_hold (b_rr_hold_0 ?_)
  unfold T_rr_hold_0 T_rr_hold_32
  rw [h5, wr_id (x := (l.length : Int)) (by omega) (by omega)]
  refine ⟨fun z => by omega, fun _ => ⟨by omega, fun s2 x2 s3 x3 => ?_⟩⟩
  obtain ⟨a1, a2, a3⟩ := updM_f x2
  obtain ⟨b1, b2, b3⟩ := updM_f x3
  refine h s3 ⟨fun o z => by rw [b1 o z, a1 o z], fun j z => by rw [b2 j (by omega), a2 j (by omega)]⟩ ?_ ⟨?_, ?_⟩
  · rw [b3, uA_s, a2 4 (by omega), h5, List.length_cons]
    omega
  · rw [b2 3 (by omega), a3, uA_s]
  · rw [b2 3 (by omega), a3]
    exact stk_up hs (fun i i0 i1 => uA_n _ (by omega))
def isN (T : Int → Int) (N b : Int) : Prop := wq T (sc (ltT T) N b) [110, 111, 116] b
theorem isN_91 {T : Int → Int} {N b : Int} (h : isN T N b) (hb : b ≤ N) : pk T N b = 110 := by
  have h1 := wq_len h
  have h2 := sc_bd (P := ltT T) hb
  have : b < N := by
    have : (([110, 111, 116] : List Int).length : Int) = 3 := rfl
    omega
  unfold pk
  rw [if_pos this]
  exact h.1
theorem p_rr_readOpening {s : Mem} {T : Int → Int} {N b : Int} {Q : Int → Mem → Prop} (hT : TX T N) (hC : CXx s T N b) (hp : 0 ≤ b ∧ b ≤ N)
    (h0 : ¬ pk T N b = 91 → ¬ isN T N b → ∀ t, FrJ 1 (fun j => j = 2) s t → CXx t T N b → Q (-1) t) (h1 : pk T N b = 91 → ∀ t, FrJ 1 (fun j => j = 2) s t → CXx t T N (b + 1) → Q 15 t) (h2 : ¬ pk T N b = 91 → isN T N b → ∀ t, FrJ 1 (fun j => j = 2) s t → CXx t T N (sc (ltT T) N b) → Q 12 t) : W_rr_readOpening s Q := by
  have hpk := pk_bd hT (p := b) (by omega)
  refine w_rr_readOpening (b_rr_readOpening_0 (p_tx_peek hT hC (by omega) ?_))
  rw [wr_id (x := pk T N b) (by omega) (by omega)]
  refine ⟨fun c => ?_, fun c => p_tx_step hC (fun t F C => h1 (Decidable.byContradiction c) t F C)⟩
  unfold T_rr_readOpening_16 T_rr_readOpening_34
  refine p_tx_readWord (ws := [[110, 111, 116]]) rfl rfl (by decide) (by intro z; cases z) (by decide) hT hC hp (fun t x F C hx => ?_)
  rcases hx with ⟨g1, g2⟩ | ⟨g1, g2⟩
  · subst g2
    exact ⟨fun z => absurd z (by decide), fun _ => h2 c g1 t F C⟩
  · have g2 : x = -1 := g2
    subst g2
    refine ⟨fun _ s1 x1 => ?_, fun z => absurd (by decide) z⟩
    obtain ⟨a1, a2, a3⟩ := updM_f x1
    have G : FrJ 1 (fun j => j = 2) t s1 := ⟨a1, fun j z => a2 j z⟩
    exact h0 c g1 s1 (F.tr G) (C.st G (by rw [a3, uA_s]; exact hC.2.2))
def opC (T : Int → Int) (N : Int) : Nat → Int → List Int → Int → Int → List Int → Prop
  | 0, _, _, _, _, _ => False
  | f + 1, p, l, r, p', l' =>
    (¬ pk T N (sc (blT T) N p) = 91 ∧ ¬ isN T N (sc (blT T) N p) ∧ r = 0 ∧ p' = sc (blT T) N p ∧ l' = l) ∨
    (∃ k pn, ((pk T N (sc (blT T) N p) = 91 ∧ k = 15 ∧ pn = sc (blT T) N p + 1) ∨ (¬ pk T N (sc (blT T) N p) = 91 ∧ isN T N (sc (blT T) N p) ∧ k = 12 ∧ pn = sc (ltT T) N (sc (blT T) N p))) ∧
      ((10 ≤ dep l ∧ r = 1 + 8 * sc (blT T) N p + 2) ∨ (dep l < 10 ∧ opC T N f pn (k :: l) r p' l')))
theorem p_rr_readOpenings {T : Int → Int} {N c n q : Int} {Q : Int → Mem → Prop} (hT : TX T N) :
    ∀ (f : Nat) (a p : Int) (l : List Int) (s : Mem), dep l + f = 11 → dep l ≤ 10 → 0 ≤ a → a ≤ dep l → okT l → CS s T N p c n q → (0 ≤ p ∧ p ≤ N) → ST s l →
    (∀ t r p' l', FR s t → (0 ≤ r ∧ r ≤ 5000) → opC T N f p l r p' l' → (r = 0 → CE s t [] ∧ CS t T N p' c n q ∧ ST t l' ∧ (0 ≤ p' ∧ p' ≤ N) ∧ okT l' ∧ dep l' ≤ 10 ∧ (l'.length : Int) ≤ (l.length : Int) + f ∧ sc (blT T) N p' = p') → Q r t) → K_rr_readOpenings_2 Q a s
  | 0, _, _, _, _, hf, hd, _, _, _, _, _, _, _ => by omega
  | f + 1, a, p, l, s, hf, hd, a0, a1, ok, hS, hp, hs, h => by
    have hN := hT.1
    have hl := okT_len ok
    have h32 := okT_40 ok (by omega)
    have hnb := sc_bd (P := blT T) hp.2
    have hlt := sc_bd (P := ltT T) hnb.2
    refine b_rr_readOpenings_2 ?_
    unfold T_rr_readOpenings_2 T_rr_readOpenings_28 T_rr_readOpenings_43 T_rr_readOpenings_75 T_rr_readOpenings_76
    rw [wr_id (x := a) (by omega) (by omega)]
    refine ⟨fun z => by omega, fun _ => p_tx_next hT hS.1 hp (fun t1 F1 C1 => ?_)⟩
    have hss := sc_sc (P := blT T) hp.2
    unfold opC at h
    generalize sc (blT T) N p = b at hnb hlt C1 hss h ⊢
    -- an opening
    have one : ∀ (k pn : Int) (t : Mem), (k = 12 ∨ k = 15) → ((pk T N b = 91 ∧ k = 15 ∧ pn = b + 1) ∨ (¬ pk T N b = 91 ∧ isN T N b ∧ k = 12 ∧ pn = sc (ltT T) N b)) → FrJ 1 (fun j => j = 2) t1 t → CXx t T N pn → (0 ≤ pn ∧ pn ≤ N) → (wr (t 22 6 0) < 10 → W_rr_hold k t (fun s1 => ∀ s2, s2 = updM s1 22 6 0 ((s1 22 6 0) + 1) → (¬ wr k = 15 → ∀ s3, s3 = updM s2 22 5 0 (s2 22 5 0 + 0) → K_rr_readOpenings_2 Q (a + 1) s3) ∧ (¬ (¬ wr k = 15) → ∀ s3, s3 = updM s2 22 5 0 (s2 22 5 0 + 1) → K_rr_readOpenings_2 Q (a + 1) s3))) ∧ (¬ (wr (t 22 6 0) < 10) → W_tx_fault b 2 t (fun r3 s2 => Q r3 s2)) := fun k pn t hk hkp F C hpn => by
      have Fs := F1.tr F
      have S1 := hS.mv Fs C
      obtain ⟨q1, q2, q3, q4⟩ := hs.w (FWt.f1 Fs (by omega))
      rw [q3, wr_id (x := dep l) (by omega) (by omega), wr_id (x := k) (by omega) (by omega)]
      refine ⟨fun z => p_rr_hold (by omega) q1 q4 (fun u G g5 g4 s2 x2 => ?_), fun z => p_tx_fault ?_⟩
      · obtain ⟨b1, b2, b3⟩ := updM_f x2
        have last : ∀ y s3, s3 = updM s2 22 5 0 (s2 22 5 0 + y) → y = (if k = 15 then 1 else 0) → K_rr_readOpenings_2 Q (a + 1) s3 := fun y s3 x3 ey => by
          obtain ⟨c1, c2, c3⟩ := updM_f x3
          have o3 : ∀ o, ¬ o = 22 → s3 o = t o := fun o ho => by rw [c1 o ho, b1 o ho, G.1 o ho]
          have hS3 : CS s3 T N pn c n q := by
            obtain ⟨g1, g2, g3, g4, g5⟩ := S1
            exact ⟨⟨by rw [o3 1 (by omega)]; exact g1.1, by rw [o3 1 (by omega)]; exact g1.2.1, by rw [o3 1 (by omega)]; exact g1.2.2⟩, by rw [c2 1 (by omega), b2 1 (by omega), G.2 1 (by omega)]; exact g2, by rw [o3 23 (by omega)]; exact g3, by rw [o3 23 (by omega)]; exact g4, by rw [o3 23 (by omega)]; exact g5⟩
          have dk : dep (k :: l) = 1 + dep l := by
            show (if k = 12 ∨ k = 15 then (1 : Int) else 0) + dep l = _
            rw [if_pos hk]
          have hS4 : ST s3 (k :: l) := by
            refine ⟨by rw [c2 4 (by omega), b2 4 (by omega)]; exact g5, ?_, ?_, by rw [c2 3 (by omega), b2 3 (by omega)]; exact g4⟩
            · rw [c3, uA_s, b2 5 (by omega), G.2 5 (by omega), q2, ey]
              show opn l + _ = _ + opn l
              omega
            · rw [c2 6 (by omega), b3, uA_s, G.2 6 (by omega), q3, dk]
              omega
          refine p_rr_readOpenings hT f (a + 1) pn (k :: l) s3 (by omega) (by omega) (by omega) (by omega) ⟨ok, hk.elim Or.inl (fun z => Or.inr (Or.inl z))⟩ hS3 hpn hS4 (fun t' r p' l' i1 i2 i3 i4 => ?_)
          refine h t' r p' l' ((FR.f1 Fs).trn (FR.trn (fun o ho => o3 o (by omega)) i1)) i2 (Or.inr ⟨k, pn, hkp, Or.inr ⟨z, i3⟩⟩) (fun z0 => ?_)
          obtain ⟨j1, j2, j3, j4, j5, j6, j7, j8⟩ := i4 z0
          refine ⟨?_, j2, j3, j4, j5, j6, ?_, j8⟩
          · have e23 : s3 23 = s 23 := by rw [o3 23 (by omega), Fs.1 23 (by omega)]
            exact (CE.eq hS.own e23).tr j1
          · rw [List.length_cons] at j7
            omega
        exact ⟨fun y s3 x3 => last 0 s3 x3 (by rw [if_neg y]), fun y s3 x3 => last 1 s3 x3 (by rw [if_pos (Decidable.byContradiction y)])⟩
      · exact h t _ 0 [] (FR.f1 Fs) (by omega) (Or.inr ⟨k, pn, hkp, Or.inl ⟨by omega, rfl⟩⟩) (fun w => by omega)
    refine p_rr_readOpening hT C1 (by omega) (fun z z2 t F C => ?_) (fun z t F C => ?_) (fun z z2 t F C => ?_)
    · refine ⟨fun w => absurd (by decide) w, fun _ => ?_⟩
      have Fs := F1.tr F
      exact h t 0 b l (FR.f1 Fs) (by omega) (Or.inl ⟨z, z2, rfl, rfl, rfl⟩) (fun _ => ⟨CE.mv hS Fs, hS.mv Fs C, hs.w (FWt.f1 Fs (by omega)), by omega, ok, by omega, by omega, hss⟩)
    · have := pkT_lt (T := T) (N := N) (p := b) (by omega)
      exact br_t (by decide) (one 15 _ t (Or.inr rfl) (Or.inl ⟨z, rfl, rfl⟩) F C (by omega))
    · exact br_t (by decide) (one 12 _ t (Or.inl rfl) (Or.inr ⟨z, z2, rfl, rfl⟩) F C (by omega))
