/-! ===== RULE: what waits is settled ===== -/
def puN : List Int → List Int
  | [] => []
  | x :: r => if x = 12 then puN r else x :: r
def enN : List Int → List (Int × Int)
  | [] => []
  | x :: r => if x = 12 then (12, 0) :: enN r else []
def puS (a : Bool) : List Int → List Int
  | [] => []
  | x :: r => if x = 13 ∨ (a = true ∧ x = 14) then puS a r else x :: r
def enS (a : Bool) : List Int → List (Int × Int)
  | [] => []
  | x :: r => if x = 13 ∨ (a = true ∧ x = 14) then (x, 0) :: enS a r else []
theorem okT_tl {x : Int} {r : List Int} (h : okT (x :: r)) : okT r ∧ (x = 12 ∨ x = 13 ∨ x = 14 ∨ x = 15) := ⟨h.1, by rcases h.2 with q | q | ⟨q, _⟩ | ⟨q, _⟩ <;> omega⟩
theorem puN_ok : ∀ {l : List Int}, okT l → okT (puN l) ∧ opn (puN l) = opn l ∧ dep (puN l) ≤ dep l ∧ ((puN l).length : Int) + ((enN l).length : Int) = (l.length : Int) ∧ ∀ r, ¬ puN l = 12 :: r
  | [], h => ⟨h, rfl, Int.le_refl _, rfl, fun r z => by cases z⟩
  | x :: r, h => by
    unfold puN enN
    by_cases q : x = 12
    · rw [if_pos q, if_pos q]
      obtain ⟨i1, i2, i3, i4, i5⟩ := puN_ok h.1
      refine ⟨i1, ?_, ?_, ?_, i5⟩
      · rw [i2]
        show opn r = (if x = 15 then 1 else 0) + opn r
        rw [if_neg (by omega)]; omega
      · show dep (puN r) ≤ (if x = 12 ∨ x = 15 then 1 else 0) + dep r
        rw [if_pos (Or.inl q)]; omega
      · rw [List.length_cons, List.length_cons]; omega
    · rw [if_neg q, if_neg q]
      refine ⟨h, rfl, Int.le_refl _, ?_, fun r' z => by cases z; exact q rfl⟩
      show _ + ((0 : Nat) : Int) = _
      omega
theorem puS_ok {a : Bool} : ∀ {l : List Int}, okT l → okT (puS a l) ∧ opn (puS a l) = opn l ∧ dep (puS a l) = dep l ∧ ((puS a l).length : Int) + ((enS a l).length : Int) = (l.length : Int)
  | [], h => ⟨h, rfl, rfl, rfl⟩
  | x :: r, h => by
    unfold puS enS
    by_cases q : x = 13 ∨ (a = true ∧ x = 14)
    · rw [if_pos q, if_pos q]
      obtain ⟨i1, i2, i3, i4⟩ := puS_ok (a := a) h.1
      refine ⟨i1, ?_, ?_, ?_⟩
      · rw [i2]
        show opn r = (if x = 15 then 1 else 0) + opn r
        rw [if_neg (by omega)]; omega
      · rw [i3]
        show dep r = (if x = 12 ∨ x = 15 then 1 else 0) + dep r
        rw [if_neg (by omega)]; omega
      · rw [List.length_cons, List.length_cons]; omega
    · rw [if_neg q, if_neg q]
      refine ⟨h, rfl, rfl, ?_⟩
      show _ + ((0 : Nat) : Int) = _
      omega
/-- what lies below the joins of a level -/
theorem puS_top {l : List Int} (h : okT l) (h12 : ∀ r, ¬ l = 12 :: r) : puS true l = [] ∨ ∃ z, puS true l = 15 :: z := by
  cases l with
  | nil => exact Or.inl rfl
  | cons x r =>
    unfold puS
    rcases h.2 with q | q | ⟨q, q2⟩ | ⟨q, q2⟩
    · exact absurd (by rw [q]) (h12 r)
    · rw [if_neg (by omega), q]; exact Or.inr ⟨r, rfl⟩
    · rw [if_pos (Or.inl q)]
      rcases q2 with q2 | ⟨y, z, q2, q3⟩
      · rw [q2]; exact Or.inl rfl
      · subst q2
        unfold puS
        rcases q3 with q3 | q3
        · rw [if_pos (Or.inr ⟨rfl, q3⟩)]
          have h2 := h.1.2
          rcases h2 with w | w | ⟨w, _⟩ | ⟨_, w⟩
          · omega
          · omega
          · omega
          · rcases w with w | ⟨z2, w⟩
            · rw [w]; exact Or.inl rfl
            · rw [w]
              unfold puS
              rw [if_neg (by decide)]; exact Or.inr ⟨z2, rfl⟩
        · rw [if_neg (by omega), q3]; exact Or.inr ⟨z, rfl⟩
    · rw [if_pos (Or.inr ⟨rfl, q⟩)]
      rcases q2 with q2 | ⟨z, q2⟩
      · rw [q2]; exact Or.inl rfl
      · rw [q2]
        unfold puS
        rw [if_neg (by decide)]; exact Or.inr ⟨z, rfl⟩
/-- one of what waits is entered -/
theorem ST_pop {s t : Mem} {x : Int} {r : List Int} (hs : ST s (x :: r)) (e4 : t 22 3 = s 22 3) (e5 : t 22 4 0 = s 22 4 0 - 1) (e6 : t 22 5 0 = s 22 5 0 - (if x = 15 then 1 else 0)) (e7 : t 22 6 0 = s 22 6 0 - (if x = 12 ∨ x = 15 then 1 else 0)) : ST t r := by
  obtain ⟨q1, q2, q3, q4⟩ := hs
  have q2 : s 22 5 0 = (if x = 15 then 1 else 0) + opn r := q2
  have q3 : s 22 6 0 = (if x = 12 ∨ x = 15 then 1 else 0) + dep r := q3
  rw [List.length_cons] at q1
  exact ⟨by rw [e5, q1]; omega, by rw [e6, q2]; omega, by rw [e7, q3]; omega, by rw [e4]; exact q4.2⟩
theorem p_rr_settleNots {T : Int → Int} {N p c q : Int} {Q : Mem → Prop} (hq : 1 ≤ q ∧ q ≤ 12) : ∀ (l : List Int) (n : Int) (s : Mem), okT l → CS s T N p c n q → ST s l → (0 ≤ n ∧ n + (l.length : Int) ≤ 399) → (l.length : Int) ≤ 39 →
    (∀ t, FR s t → CE s t (enN l) → CS t T N p c (n + ((enN l).length : Int)) q → ST t (puN l) → (∀ j, j < 3 → t 22 j = s 22 j) → Q t) → K_rr_settleNots_5 Q (l.length : Int) s
  | [], n, s, _, hS, hs, hn, _, h => by
    refine b_rr_settleNots_5 ?_
    unfold T_rr_settleNots_5 T_rr_settleNots_58
    refine ⟨fun _ => h s FR.rf (CE.rf hS.own) (by rw [show n + (((enN []).length : Nat) : Int) = n from Int.add_zero n]; exact hS) hs (fun _ _ => rfl), fun z => absurd (by decide) z⟩
  | x :: r, n, s, ok, hS, hs, hn, hl, h => by
    have hs4 := hs.2.2.2
    have h7 := hs.2.2.1
    refine b_rr_settleNots_5 ?_
    unfold T_rr_settleNots_5 T_rr_settleNots_58
    unfold puN enN at h
    have el : ((x :: r).length : Int) = (r.length : Int) + 1 := by rw [List.length_cons]; omega
    have tl := (okT_tl ok).2
    rw [el] at hn hl ⊢
    rw [wr_id (x := (r.length : Int) + 1) (by omega) (by omega), show (r.length : Int) + 1 - 1 = (r.length : Int) by omega, wr_id (x := (r.length : Int)) (by omega) (by omega), hs4.1, wr_id (x := x) (by omega) (by omega)]
    refine ⟨fun z => by omega, fun _ => ⟨by omega, fun z => ?_, fun z => ?_⟩⟩
    · rw [if_neg z, if_neg z] at h
      exact h s FR.rf (CE.rf hS.own) (by rw [show n + ((([] : List (Int × Int)).length : Nat) : Int) = n from Int.add_zero n]; exact hS) hs (fun _ _ => rfl)
    · have z := Decidable.byContradiction z
      rw [if_pos z, if_pos z] at h
      refine p_ru_append hS (by omega) hq (fun u F E S s4 x4 s5 x5 => ?_)
      obtain ⟨a1, a2, a3⟩ := updM_f x4
      obtain ⟨b1, b2, b3⟩ := updM_f x5
      have o5 : ∀ o, ¬ o = 22 → s5 o = u o := fun o ho => by rw [b1 o ho, a1 o ho]
      have f5 : ∀ j, ¬ (j = 4 ∨ j = 6) → s5 22 j = s 22 j := fun j hj => by rw [b2 j (by omega), a2 j (by omega), F.1 22 (by omega)]
      have S5 : CS s5 T N p c (n + 1) q := by
        obtain ⟨g1, g2, g3, g4, g5⟩ := S
        exact ⟨⟨by rw [o5 1 (by omega)]; exact g1.1, by rw [o5 1 (by omega)]; exact g1.2.1, by rw [o5 1 (by omega)]; exact g1.2.2⟩, by rw [f5 1 (by omega), ← F.1 22 (by omega)]; exact g2, by rw [o5 23 (by omega)]; exact g3, by rw [o5 23 (by omega)]; exact g4, by rw [o5 23 (by omega)]; exact g5⟩
      have T5 : ST s5 r := by
        refine ST_pop hs (f5 3 (by omega)) ?_ ?_ ?_
        · rw [b2 4 (by omega), a3, uA_s, F.1 22 (by omega)]
        · rw [if_neg (by omega), f5 5 (by omega)]; omega
        · rw [if_pos (Or.inl z), b3, uA_s, a2 6 (by omega), F.1 22 (by omega)]
      rw [show (r.length : Int) + 1 + -1 = (r.length : Int) by omega]
      refine p_rr_settleNots hq r (n + 1) s5 ok.1 S5 T5 (by omega) (by omega) (fun t i1 i2 i3 i4 i5 => ?_)
      refine h t (FR.trn (fun o ho => by rw [o5 o (by omega), F.1 o (by omega)]) i1) ?_ ?_ i4 (fun j hj => by rw [i5 j hj, f5 j (by omega)])
      · have e23 : s5 23 = u 23 := o5 23 (by omega)
        unfold CE at i2
        rw [e23] at i2
        exact E.tr i2
      · rw [List.length_cons, show n + (((enN r).length + 1 : Nat) : Int) = n + 1 + ((enN r).length : Int) by omega]
        exact i3
theorem p_rr_settle {a : Bool} {T : Int → Int} {N p c q : Int} {Q : Mem → Prop} (hq : 1 ≤ q ∧ q ≤ 12) : ∀ (l : List Int) (n : Int) (s : Mem), okT l → CS s T N p c n q → ST s l → (0 ≤ n ∧ n + (l.length : Int) ≤ 399) → (l.length : Int) ≤ 39 →
    (∀ t, FR s t → CE s t (enS a l) → CS t T N p c (n + ((enS a l).length : Int)) q → ST t (puS a l) → (∀ j, j < 3 → t 22 j = s 22 j) → Q t) → K_rr_settle_5 Q (if a = true then 1 else 0) (l.length : Int) s
  | [], n, s, _, hS, hs, hn, _, h => by
    refine b_rr_settle_5 ?_
    unfold T_rr_settle_5 T_rr_settle_60
    refine ⟨fun _ => h s FR.rf (CE.rf hS.own) (by rw [show n + (((enS a []).length : Nat) : Int) = n from Int.add_zero n]; exact hS) hs (fun _ _ => rfl), fun z => absurd (by decide) z⟩
  | x :: r, n, s, ok, hS, hs, hn, hl, h => by
    have hs4 := hs.2.2.2
    refine b_rr_settle_5 ?_
    unfold T_rr_settle_5 T_rr_settle_34 T_rr_settle_35
    unfold puS enS at h
    have el : ((x :: r).length : Int) = (r.length : Int) + 1 := by rw [List.length_cons]; omega
    have tl := (okT_tl ok).2
    rw [el] at hn hl ⊢
    rw [wr_id (x := (r.length : Int) + 1) (by omega) (by omega), show (r.length : Int) + 1 - 1 = (r.length : Int) by omega, wr_id (x := (r.length : Int)) (by omega) (by omega), hs4.1, wr_id (x := x) (by omega) (by omega)]
    have wal : wr (if a = true then (1 : Int) else 0) = 0 ↔ ¬ a = true := by
      cases a with
      | false => exact ⟨fun _ => by decide, fun _ => by decide⟩
      | true => exact ⟨fun z => absurd z (by decide), fun z => absurd rfl z⟩
    rw [wal]
    have stop : ¬ (x = 13 ∨ (a = true ∧ x = 14)) → Q s := fun z => by
      rw [if_neg z, if_neg z] at h
      exact h s FR.rf (CE.rf hS.own) (by rw [show n + ((([] : List (Int × Int)).length : Nat) : Int) = n from Int.add_zero n]; exact hS) hs (fun _ _ => rfl)
    have pop : (x = 13 ∨ (a = true ∧ x = 14)) → W_ru_append 23 x 0 s (fun s1 => ∀ s2, s2 = updM s1 22 4 0 ((s1 22 4 0) - 1) → K_rr_settle_5 Q (if a = true then 1 else 0) ((r.length : Int) + 1 + -1) s2) := fun z => by
      rw [if_pos z, if_pos z] at h
      refine p_ru_append hS (by omega) hq (fun u F E S s5 x5 => ?_)
      obtain ⟨b1, b2, b3⟩ := updM_f x5
      have f5 : ∀ j, ¬ j = 4 → s5 22 j = s 22 j := fun j hj => by rw [b2 j hj, F.1 22 (by omega)]
      have S5 : CS s5 T N p c (n + 1) q := by
        obtain ⟨g1, g2, g3, g4, g5⟩ := S
        exact ⟨⟨by rw [b1 1 (by omega)]; exact g1.1, by rw [b1 1 (by omega)]; exact g1.2.1, by rw [b1 1 (by omega)]; exact g1.2.2⟩, by rw [f5 1 (by omega), ← F.1 22 (by omega)]; exact g2, by rw [b1 23 (by omega)]; exact g3, by rw [b1 23 (by omega)]; exact g4, by rw [b1 23 (by omega)]; exact g5⟩
      have T5 : ST s5 r := by
        refine ST_pop hs (f5 3 (by omega)) ?_ ?_ ?_
        · rw [b3, uA_s, F.1 22 (by omega)]
        · rw [if_neg (by omega), f5 5 (by omega)]; omega
        · rw [if_neg (by omega), f5 6 (by omega)]; omega
      rw [show (r.length : Int) + 1 + -1 = (r.length : Int) by omega]
      refine p_rr_settle hq r (n + 1) s5 ok.1 S5 T5 (by omega) (by omega) (fun t i1 i2 i3 i4 i5 => ?_)
      refine h t (FR.trn (fun o ho => by rw [b1 o (by omega), F.1 o (by omega)]) i1) ?_ ?_ i4 (fun j hj => by rw [i5 j hj, f5 j (by omega)])
      · have e23 : s5 23 = u 23 := b1 23 (by omega)
        unfold CE at i2
        rw [e23] at i2
        exact E.tr i2
      · rw [List.length_cons, show n + (((enS a r).length + 1 : Nat) : Int) = n + 1 + ((enS a r).length : Int) by omega]
        exact i3
    refine ⟨fun z => by omega, fun _ => ⟨by omega, fun z => pop (Or.inl z), fun z => ⟨fun z2 => stop (fun w => w.elim z (fun y => z2 y.1)), fun z2 => ⟨fun z3 => pop (Or.inr ⟨Decidable.byContradiction z2, z3⟩), fun z3 => stop (fun w => w.elim z (fun y => z3 y.2))⟩⟩⟩⟩
def clsC (T : Int → Int) (N : Int) : Nat → Int → List Int → Int → List Int → List (Int × Int) → Prop
  | 0, _, _, _, _, _ => False
  | f + 1, p, l, p', l', E =>
    (pk T N (sc (blT T) N p) = 93 ∧ 0 < opn l ∧ ∃ z E2, puS true (puN l) = 15 :: z ∧ clsC T N f (sc (blT T) N p + 1) z p' l' E2 ∧ E = (enN l ++ enS true (puN l)) ++ E2) ∨
    (¬ (pk T N (sc (blT T) N p) = 93 ∧ 0 < opn l) ∧ p' = sc (blT T) N p ∧ l' = puN l ∧ E = enN l)
theorem p_rr_closeBrackets {T : Int → Int} {N c q : Int} {Q : Mem → Prop} (hT : TX T N) (hq : 1 ≤ q ∧ q ≤ 12) :
    ∀ (f : Nat) (a p n : Int) (l : List Int) (s : Mem), a + f = 11 → 0 ≤ a → a + opn l ≤ 10 → okT l → CS s T N p c n q → (0 ≤ p ∧ p ≤ N) → ST s l → (0 ≤ n ∧ n + (l.length : Int) ≤ 399) → (l.length : Int) ≤ 39 →
    (∀ t p' l' E, FR s t → clsC T N f p l p' l' E → CE s t E → CS t T N p' c (n + (E.length : Int)) q → ST t l' → (0 ≤ p' ∧ p' ≤ N) → okT l' → opn l' ≤ opn l → dep l' ≤ dep l → (E.length : Int) + (l'.length : Int) ≤ (l.length : Int) → sc (blT T) N p' = p' → (∀ r, ¬ l' = 12 :: r) → Q t) → K_rr_closeBrackets_2 Q a s
  | 0, _, _, _, l, _, hf, _, ho, ok, _, _, _, _, _, _ => by have := okT_len ok; omega
  | f + 1, a, p, n, l, s, hf, a0, ho, ok, hS, hp, hs, hn, hl, h => by
    have hN := hT.1
    have hol := okT_len ok
    have hnb := sc_bd (P := blT T) hp.2
    have hss := sc_sc (P := blT T) hp.2
    obtain ⟨k1, k2, k3, k4, k5⟩ := puN_ok ok
    refine b_rr_closeBrackets_2 ?_
    unfold T_rr_closeBrackets_2
    rw [wr_id (x := a) (by omega) (by omega)]
    refine ⟨fun z => by omega, fun _ => w_rr_settleNots (b_rr_settleNots_0 ?_)⟩
    unfold T_rr_settleNots_0
    rw [hs.1]
    refine p_rr_settleNots hq l n s ok hS hs hn hl (fun t1 F1 E1 S1 T1 _ => p_tx_next hT S1.1 hp (fun t2 F2 C2 => ?_))
    unfold clsC at h
    generalize sc (blT T) N p = b at hnb hss C2 h ⊢
    have S2 := S1.mv F2 C2
    have T2 : ST t2 (puN l) := T1.w (FWt.f1 F2 (by omega))
    have E2 : CE s t2 (enN l) := by
      have := E1.tr (CE.mv S1 F2)
      rw [List.append_nil] at this
      exact this
    have G2 : FR s t2 := F1.trn (FR.f1 F2)
    refine p_tx_peek hT C2 (by omega) ?_
    have hpk := pk_bd hT (p := b) (by omega)
    have h6 := T2.2.1
    rw [k2] at h6
    rw [wr_id (x := pk T N b) (by omega) (by omega), h6, wr_id (x := opn l) (by omega) (by omega)]
    have stop : ¬ (pk T N b = 93 ∧ 0 < opn l) → T_rr_closeBrackets_33 Q t2 := fun z =>
      h t2 b (puN l) (enN l) G2 (Or.inr ⟨z, rfl, rfl, rfl⟩) E2 S2 T2 (by omega) k1 (by omega) k3 (by omega) hss k5
    refine ⟨fun z => stop (fun w => z w.1), fun z => ⟨fun z2 => ?_, fun z2 => stop (fun w => by omega)⟩⟩
    have z := Decidable.byContradiction z
    have hbN := pkT_lt (T := T) (N := N) (p := b) (by omega)
    unfold T_rr_closeBrackets_34
    refine p_tx_step C2 (fun t3 F3 C3 => w_rr_settle (b_rr_settle_0 ?_))
    have S3 := S2.mv F3 C3
    have T3 : ST t3 (puN l) := T2.w (FWt.f1 F3 (by omega))
    unfold T_rr_settle_0
    rw [T3.1]
    have key := p_rr_settle (a := true) hq (puN l) _ t3 k1 S3 T3 (by omega) (by omega) (Q := fun s2 => (wr (s2 22 4 0) ≤ 0 → T_rr_closeBrackets_60 Q a s2) ∧ (¬ (wr (s2 22 4 0) ≤ 0) → ∀ s4, s4 = updM s2 22 4 0 ((s2 22 4 0) - 1) → T_rr_closeBrackets_60 Q a s4)) (fun t4 F4 E4 S4 T4 _ => ?_)
    · exact key
    · obtain ⟨m1, m2, m3, m4⟩ := puS_ok (a := true) k1
      have htop := puS_top k1 k5
      rcases htop with htop | ⟨zz, htop⟩
      · rw [htop] at m2
        have m2 : (0 : Int) = opn (puN l) := m2
        omega
      · rw [htop] at T4 m1 m2 m3 m4
        have m2 : (if (15 : Int) = 15 then 1 else 0) + opn zz = opn (puN l) := m2
        have m3 : (if (15 : Int) = 12 ∨ (15 : Int) = 15 then 1 else 0) + dep zz = dep (puN l) := m3
        rw [if_pos rfl] at m2
        rw [if_pos (Or.inr rfl)] at m3
        rw [List.length_cons] at m4
        have e5 := T4.1
        rw [List.length_cons] at e5
        rw [e5, wr_id (x := ((zz.length + 1 : Nat) : Int)) (by omega) (by omega)]
        refine ⟨fun w => by omega, fun _ s4 x4 => ?_⟩
        unfold T_rr_closeBrackets_60
        intro s5 x5 s6 x6
        obtain ⟨a1, a2, a3⟩ := updM_f x4
        obtain ⟨b1, b2, b3⟩ := updM_f x5
        obtain ⟨c1, c2, c3⟩ := updM_f x6
        have o6 : ∀ o, ¬ o = 22 → s6 o = t4 o := fun o hh => by rw [c1 o hh, b1 o hh, a1 o hh]
        have f6 : ∀ j, ¬ (4 ≤ j ∧ j ≤ 6) → s6 22 j = t4 22 j := fun j hj => by rw [c2 j (by omega), b2 j (by omega), a2 j (by omega)]
        have S6 : CS s6 T N (b + 1) c (n + ((enN l).length : Int) + ((enS true (puN l)).length : Int)) q := by
          obtain ⟨g1, g2, g3, g4, g5⟩ := S4
          exact ⟨⟨by rw [o6 1 (by omega)]; exact g1.1, by rw [o6 1 (by omega)]; exact g1.2.1, by rw [o6 1 (by omega)]; exact g1.2.2⟩, by rw [f6 1 (by omega)]; exact g2, by rw [o6 23 (by omega)]; exact g3, by rw [o6 23 (by omega)]; exact g4, by rw [o6 23 (by omega)]; exact g5⟩
        have T6 : ST s6 zz := by
          refine ST_pop T4 (f6 3 (by omega)) ?_ ?_ ?_
          · rw [c2 4 (by omega), b2 4 (by omega), a3, uA_s, T4.1, List.length_cons]
          · rw [if_pos rfl, c2 5 (by omega), b3, uA_s, a2 5 (by omega)]
          · rw [if_pos (Or.inr rfl), c3, uA_s, b2 6 (by omega), a2 6 (by omega)]
        have E6 : CE s s6 (enN l ++ enS true (puN l)) := by
          have e2 := E2.tr ((CE.mv S2 F3).tr E4)
          rw [List.nil_append] at e2
          unfold CE at e2 ⊢
          rw [o6 23 (by omega)]
          exact e2
        refine p_rr_closeBrackets hT hq f (a + 1) (b + 1) _ zz s6 (by omega) (by omega) (by omega) m1.1 S6 (by omega) T6 (by omega) (by omega) (fun t p' l' E i1 i2 i3 i4 i5 i6 i7 i8 i9 i10 i11 i12 => ?_)
        refine h t p' l' ((enN l ++ enS true (puN l)) ++ E) ((G2.trn (FR.f1 F3)).trn (F4.trn (FR.trn (fun o hh => o6 o (by omega)) i1))) (Or.inl ⟨z, by omega, zz, E, htop, i2, rfl⟩) (E6.tr i3) ?_ i5 i6 i7 (by omega) (by omega) ?_ i11 i12
        · rw [List.length_append, List.length_append, show n + (((enN l).length + (enS true (puN l)).length + E.length : Nat) : Int) = n + ((enN l).length : Int) + ((enS true (puN l)).length : Int) + (E.length : Int) by omega]
          exact i4
        · rw [List.length_append, List.length_append]
          omega
