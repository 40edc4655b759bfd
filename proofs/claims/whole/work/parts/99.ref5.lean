/-! ===== RULE: the reference settles, closes, joins ===== -/
theorem puS_two : ∀ {l : List Int}, okT l → puS true l = puK 14 (puK 13 l) ∧ enS true l = enK 13 l ++ enK 14 (puK 13 l)
  | [], _ => ⟨rfl, rfl⟩
  | x :: r, ok => by
    have p1 : puS true (x :: r) = if x = 13 ∨ (true = true ∧ x = 14) then puS true r else x :: r := rfl
    have p2 : enS true (x :: r) = if x = 13 ∨ (true = true ∧ x = 14) then (x, 0) :: enS true r else [] := rfl
    have p3 : puK 13 (x :: r) = if x = 13 then puK 13 r else x :: r := rfl
    have p4 : enK 13 (x :: r) = if x = 13 then (13, 0) :: enK 13 r else [] := rfl
    rw [p1, p2, p3, p4]
    by_cases q : x = 13
    · obtain ⟨i1, i2⟩ := puS_two ok.1
      rw [if_pos (Or.inl q), if_pos (Or.inl q), if_pos q, if_pos q, i1, i2, q]
      exact ⟨rfl, rfl⟩
    · have p5 : puK 14 (x :: r) = if x = 14 then puK 14 r else x :: r := rfl
      have p6 : enK 14 (x :: r) = if x = 14 then (14, 0) :: enK 14 r else [] := rfl
      rw [if_neg q, if_neg q, p5, p6]
      by_cases q2 : x = 14
      · rw [if_pos (Or.inr ⟨rfl, q2⟩), if_pos (Or.inr ⟨rfl, q2⟩), if_pos q2, if_pos q2, q2]
        rcases ok.2 with z | z | ⟨z, _⟩ | ⟨_, z | ⟨y, z⟩⟩
        · omega
        · omega
        · omega
        · rw [z]
          exact ⟨rfl, rfl⟩
        · rw [z]
          exact ⟨rfl, rfl⟩
      · have hn : ¬ (x = 13 ∨ (true = true ∧ x = 14)) := fun w => w.elim q (fun y => q2 y.2)
        rw [if_neg hn, if_neg hn, if_neg q2, if_neg q2]
        exact ⟨rfl, rfl⟩
/-- behind a FACT, with its nots settled: what comes -/
def J40 (Q : Mem → Prop) (s : Mem) : Prop := W_md_stood 56 s (fun r4 s3 => (r4 = 0 ∨ r4 = 1) → W_md_stood 58 s3 (fun r6 s5 => (r6 = 0 ∨ r6 = 1) → W_md_answers 10 s5 (fun s7 => (¬ wr r4 = 0 → T_md_test_82 Q 1 r4 r6 s7) ∧ (¬ (¬ wr r4 = 0) → (wr r6 = 0 → T_md_test_131 Q 0 1 s7) ∧ (¬ (wr r6 = 0) → T_md_test_82 Q 1 r4 r6 s7)))))
def U131 (Q : Mem → Prop) (s : Mem) : Prop := W_md_top s (fun r3 s2 => (¬ wr r3 = 12 → T_md_test_197 Q 0 s2) ∧ (¬ (¬ wr r3 = 12) → W_md_sign s2 (fun r6 s5 => (wr r6 = 93 → T_md_test_164 Q 0 1 s5) ∧ (¬ (wr r6 = 93) → W_md_fails 0 (s5 34 33 0) s5 (fun s8 => T_md_test_164 Q 0 1 s8)))))
theorem p_J40n {T : Int → Int} {N b c n ρ : Int} {l : List Int} {v : Mem} {Q : Mem → Prop} (hT : TX T N) (hρ : 0 ≤ ρ ∧ ρ < 6) (hx : fw T (sc (ltT T) N b) b aow 0 (-1)) (ok : okT l) (hd : dep l ≤ 10) (hZ : RZ v T N b c n ρ) (hf : v 34 34 0 = 0) (hR : RT v l) (hb : 0 ≤ b ∧ b ≤ N) (hn : 0 ≤ n ∧ n + (l.length : Int) ≤ 299)
    (h : ∀ m, FrJ 34 rwJ v m → m 34 34 0 = 0 → RZ m T N b c (n + ((enS true l).length : Int)) ρ → RE v m (300 * ρ + n) (enS true l) → RT m (puS true l) → U131 Q m) : J40 Q v := by
  have h40 := okT_40 ok hd
  obtain ⟨s1, s2⟩ := puS_two ok
  obtain ⟨t1, t2⟩ := puS_K l
  obtain ⟨m1, m2, m3, m4⟩ := puS_ok (a := false) ok
  have hx2 : ¬ wq T (sc (ltT T) N b) [97, 110, 100] b ∧ ¬ wq T (sc (ltT T) N b) [111, 114] b := by
    rcases hx with ⟨_, q⟩ | ⟨q1, ⟨_, q⟩ | ⟨q2, _⟩⟩
    · exact absurd q (by decide)
    · exact absurd q (by decide)
    · exact ⟨q1, q2⟩
  rw [t1] at m1 m3 m4
  rw [t2] at m4
  unfold J40
  refine p_md_stood (k := 56) rfl (by decide) hT hZ.1 hb (fun hq => absurd hq hx2.1) (fun _ _ => p_md_stood (k := 58) rfl (by decide) hT hZ.1 hb (fun hq => absurd hq hx2.2) (fun _ _ => w_md_answers ?_))
  refine p_md_answers (k := 13) (Or.inr (Or.inl rfl)) hρ l n v ok hd hZ hf hR hn (by omega) (fun m F e Z R Tm => br_f (by decide) (br_t (by decide) ?_))
  unfold T_md_test_131
  refine w_md_answers ?_
  refine p_md_answers (k := 14) (Or.inr (Or.inr rfl)) hρ (puK 13 l) _ m m1 (by omega) Z e Tm (by omega) (by omega) (fun u Fu eu Zu Ru Tu => ?_)
  have ll : ((enS true l).length : Int) = ((enK 13 l).length : Int) + ((enK 14 (puK 13 l)).length : Int) := by rw [s2, List.length_append]; omega
  refine h u (F.tr Fu) eu ?_ ?_ (by rw [s1]; exact Tu)
  · rw [ll, show n + (((enK 13 l).length : Int) + ((enK 14 (puK 13 l)).length : Int)) = n + ((enK 13 l).length : Int) + ((enK 14 (puK 13 l)).length : Int) by omega]
    exact Zu
  · rw [s2]
    exact R.tr (by rw [show 300 * ρ + n + ((enK 13 l).length : Int) = 300 * ρ + (n + ((enK 13 l).length : Int)) by omega]; exact Ru)
theorem p_J40j {a : Bool} {T : Int → Int} {N b c n ρ : Int} {l : List Int} {v : Mem} {Q : Mem → Prop} (hT : TX T N) (hρ : 0 ≤ ρ ∧ ρ < 6) (hx : fw T (sc (ltT T) N b) b aow 0 (if a = true then 1 else 0)) (ok : okT l) (h12 : ∀ r, ¬ l = 12 :: r) (hd : dep l ≤ 10) (hZ : RZ v T N b c n ρ) (hf : v 34 34 0 = 0) (hR : RT v l) (hb : 0 ≤ b ∧ b ≤ N) (hn : 0 ≤ n ∧ n + (l.length : Int) ≤ 299)
    (h : ∀ m, FrJ 34 rwJ v m → m 34 34 0 = 0 → RZ m T N (sc (ltT T) N b) c (n + ((enS a l).length : Int)) ρ → RE v m (300 * ρ + n) (enS a l) → RT m (jnk a :: puS a l) → K_md_test_9 Q 1 1 m) : J40 Q v := by
  have h40 := okT_40 ok hd
  have hN := hT.1
  have hlt := sc_bd (P := ltT T) hb.2
  obtain ⟨t1, t2⟩ := puS_K l
  obtain ⟨m1, m2, m3, m4⟩ := puS_ok (a := false) ok
  rw [t1] at m1 m3 m4
  rw [t2] at m4
  -- the word is passed over, what waits goes on
  have last : ∀ (k y : Int) (E : List (Int × Int)) (l2 : List Int) (u : Mem), k = jnk a → sc (ltT T) N b = b + y → FrJ 34 rwJ v u → u 34 34 0 = 0 → RZ u T N b c (n + (E.length : Int)) ρ → RE v u (300 * ρ + n) E → RT u l2 → E = enS a l → l2 = puS a l → (0 ≤ dep l2 ∧ dep l2 ≤ 10) → (l2.length : Int) ≤ 100 →
      ∀ C : Mem → Prop, (∀ s1, s1 34 33 0 = b → (∀ s2, s2 = updM s1 34 33 0 (b + y) → K_md_test_9 Q 1 1 s2) → C s1) → W_md_opens (k - 3) u C := fun k y E l2 u hk hy F e Z R Tu eE el hd2 hl2 C hC => by
    have hk2 : k = 13 ∨ k = 14 := by
      rw [hk]
      cases a with
      | true => exact Or.inr rfl
      | false => exact Or.inl rfl
    refine p_md_opensT (by omega) Z.1 e Tu hd2 hl2 (fun w Fw _ g => hC w (by rw [Fw.2 33 (by omega)]; exact Z.1.2.1) (fun s2 x2 => ?_))
    obtain ⟨g1, g2⟩ := g (Or.inl hk2)
    obtain ⟨b1, b2, b3⟩ := updM_f x2
    have F2 : FrJ 34 (fun j => j = 33 ∨ j = 34 ∨ j = 38 ∨ j = 40 ∨ j = 51) u s2 := (Fw.mono (fun j q => Or.inr q)).tr ⟨b1, fun j q => b2 j (by omega)⟩
    have Z2 : RZ s2 T N (sc (ltT T) N b) c (n + (E.length : Int)) ρ := Z.st F2 (by omega) (by omega) (by omega) (by omega) (by omega) (by omega) (by rw [b3, uA_s, hy])
    subst eE el hk
    exact h s2 (F.tr (F2.mono (fun j q => by unfold rwJ; omega))) (by rw [b2 34 (by omega)]; exact g1) Z2 ⟨by rw [F2.2 44 (by omega)]; exact R.1, by rw [F2.2 45 (by omega)]; exact R.2⟩ (g2.st (S := fun j => j = 33) ⟨b1, fun j q => b2 j q⟩ (by omega) (by omega) (by omega))
  unfold J40
  cases a with
  | true =>
    have hx3 : ¬ wq T (sc (ltT T) N b) [97, 110, 100] b ∧ wq T (sc (ltT T) N b) [111, 114] b := by
      rcases hx with ⟨_, q⟩ | ⟨q1, ⟨q2, _⟩ | ⟨_, q⟩⟩
      · exact absurd q (by decide)
      · exact ⟨q1, q2⟩
      · have q : (1 : Int) = -1 := q
        omega
    obtain ⟨s1, s2⟩ := puS_two ok
    obtain ⟨n1, n2, n3, n4⟩ := puS_ok (a := true) ok
    have hlen := wq_len hx3.2
    have hlen : b + 2 = sc (ltT T) N b := hlen
    refine p_md_stood (k := 56) rfl (by decide) hT hZ.1 hb (fun hq => absurd hq hx3.1) (fun _ _ => p_md_stood (k := 58) rfl (by decide) hT hZ.1 hb (fun _ _ => w_md_answers ?_) (fun hq => absurd hx3.2 hq))
    refine p_md_answers (k := 13) (Or.inr (Or.inl rfl)) hρ l n v ok hd hZ hf hR hn (by omega) (fun m F e Z R Tm => br_f (by decide) (br_f (by decide) ?_))
    unfold T_md_test_82
    refine br_f (by decide) (w_md_answers ?_)
    refine p_md_answers (k := 14) (Or.inr (Or.inr rfl)) hρ (puK 13 l) _ m m1 (by omega) Z e Tm (by omega) (by omega) (fun u Fu eu Zu Ru Tu => ?_)
    have ll : ((enK 13 l ++ enK 14 (puK 13 l)).length : Int) = ((enK 13 l).length : Int) + ((enK 14 (puK 13 l)).length : Int) := by rw [List.length_append]; omega
    unfold T_md_test_93 T_md_test_103 T_md_test_105
    refine br_t (by decide) ?_
    rw [s1] at n1 n3 n4
    have nd := okT_len n1
    have go := last 14 2 (enK 13 l ++ enK 14 (puK 13 l)) (puK 14 (puK 13 l)) u rfl (by omega) (F.tr Fu) eu (by rw [ll, show n + (((enK 13 l).length : Int) + ((enK 14 (puK 13 l)).length : Int)) = n + ((enK 13 l).length : Int) + ((enK 14 (puK 13 l)).length : Int) by omega]; exact Zu) (R.tr (by rw [show 300 * ρ + n + ((enK 13 l).length : Int) = 300 * ρ + (n + ((enK 13 l).length : Int)) by omega]; exact Ru)) Tu s2.symm s1.symm (by omega) (by omega)
    refine go _ (fun w hw q => br_t (by decide) ?_)
    unfold T_md_test_121 T_md_test_122 T_md_test_199
    rw [hw]
    exact q
  | false =>
    have hx3 : wq T (sc (ltT T) N b) [97, 110, 100] b ∧ ¬ wq T (sc (ltT T) N b) [111, 114] b := by
      rcases hx with ⟨q1, _⟩ | ⟨_, ⟨_, q⟩ | ⟨_, q⟩⟩
      · refine ⟨q1, fun q2 => ?_⟩
        have y1 : T b = 97 := q1.1
        have y2 : T b = 111 := q2.1
        omega
      · exact absurd q (by decide)
      · have q : (0 : Int) = -1 := q
        omega
    have hlen := wq_len hx3.1
    have hlen : b + 3 = sc (ltT T) N b := hlen
    refine p_md_stood (k := 56) rfl (by decide) hT hZ.1 hb (fun _ _ => p_md_stood (k := 58) rfl (by decide) hT hZ.1 hb (fun hq => absurd hq hx3.2) (fun _ _ => w_md_answers ?_)) (fun hq => absurd hx3.1 hq)
    refine p_md_answers (k := 13) (Or.inr (Or.inl rfl)) hρ l n v ok hd hZ hf hR hn (by omega) (fun m F e Z R Tm => br_t (by decide) ?_)
    unfold T_md_test_82 T_md_test_93 T_md_test_105
    refine br_t (by decide) (br_f (by decide) ?_)
    have md := okT_len m1
    have go := last 13 3 (enK 13 l) (puK 13 l) m rfl (by omega) F e Z R Tm t2.symm t1.symm (by omega) (by omega)
    refine go _ (fun w hw q => br_f (by decide) ?_)
    unfold T_md_test_122 T_md_test_199
    rw [hw]
    exact q
theorem p_md_closeL {T : Int → Int} {N c ρ : Int} {Q : Mem → Prop} (hT : TX T N) (hρ : 0 ≤ ρ ∧ ρ < 6) :
    ∀ (f : Nat) (p n : Int) (l : List Int) (pc : Int) (lc : List Int) (Ec : List (Int × Int)) (v : Mem), clsC T N f p l pc lc Ec → okT l → dep l ≤ 10 → RZ v T N p c n ρ → v 34 34 0 = 0 → RT v l → (0 ≤ p ∧ p ≤ N) → (0 ≤ n ∧ n + (l.length : Int) ≤ 299) →
    (∀ m, FrJ 34 rwJ v m → m 34 34 0 = 0 → RZ m T N pc c (n + (Ec.length : Int)) ρ → RE v m (300 * ρ + n) Ec → RT m lc → J40 Q m) → K_md_test_9 Q 0 1 v
  | 0, _, _, _, _, _, _, _, h, _, _, _, _, _, _, _, _ => absurd h id
  | f + 1, p, n, l, pc, lc, Ec, v, hcl, ok, hd, hZ, hf, hR, hp, hn, h => by
    have hN := hT.1
    have hnb := sc_bd (P := blT T) hp.2
    have h40 := okT_40 ok hd
    obtain ⟨k1, k2, k3, k4, k5⟩ := puN_ok ok
    obtain ⟨t1, t2⟩ := puN_K l
    refine b_md_test_9 ?_
    unfold T_md_test_9 T_md_test_40
    rw [hf]
    refine br_f (by decide) (br_f (by decide) (br_t (by decide) (w_md_answers ?_)))
    refine p_md_answers (k := 12) (Or.inl rfl) hρ l n v ok hd hZ hf hR hn (by omega) (fun m F e Z R Tm => ?_)
    rw [← t2] at Z R
    rw [← t1] at Tm
    refine p_md_blanks hT Z.1 ⟨hp.1, by omega⟩ (fun m2 F2 C2 => ?_)
    show J40 Q m2
    unfold clsC at hcl
    generalize sc (blT T) N p = b at hnb C2 hcl
    have Z2 := Z.low F2 C2
    have e2 : m2 34 34 0 = 0 := by rw [F2.2 34 (by omega)]; exact e
    have T2 : RT m2 (puN l) := Tm.st F2 (by omega) (by omega) (by omega)
    have R2 : RE v m2 (300 * ρ + n) (enN l) := ⟨by rw [F2.2 44 (by omega)]; exact R.1, by rw [F2.2 45 (by omega)]; exact R.2⟩
    have G2 : FrJ 34 rwJ v m2 := F.tr (F2.mono (fun j q => Or.inl q))
    rcases hcl with ⟨h1, h2, z, E2, h3, h4, h5⟩ | ⟨_, h1, h2, h3⟩
    · have hbN := pkT_lt (T := T) (N := N) (p := b) (by omega)
      have hTb : T b = 93 := by
        unfold pk at h1
        rw [if_pos hbN] at h1
        exact h1
      have hx : fw T (sc (ltT T) N b) b aow 0 (-1) := Or.inr ⟨fun q => by have : T b = 97 := q.1; omega, Or.inr ⟨fun q => by have : T b = 111 := q.1; omega, rfl⟩⟩
      obtain ⟨m1, m2', m3, m4⟩ := puS_ok (a := true) k1
      rw [h3] at m1 m2' m3 m4
      have m3 : (if (15 : Int) = 12 ∨ (15 : Int) = 15 then 1 else 0) + dep z = dep (puN l) := m3
      rw [if_pos (Or.inr rfl)] at m3
      rw [List.length_cons] at m4
      refine p_J40n hT hρ hx k1 (by omega) Z2 e2 T2 (by omega) (by omega) (fun u Fu eu Zu Ru Tu => ?_)
      rw [h3] at Tu
      have hz := okT_len m1.1
      unfold U131
      refine p_md_top Tu (by rw [List.length_cons]; omega) ?_
      refine br_f (show ¬ (¬ wr ((15 : Int) - 3) = 12) by decide) (p_md_sign hT Zu.1 ⟨by omega, by omega⟩ ?_)
      rw [h1]
      refine br_t (by decide) ?_
      unfold T_md_test_164 T_md_test_199
      intro s1 x1 s2 x2 s3 x3
      obtain ⟨a1, a2, a3⟩ := updM_f x1
      obtain ⟨b1, b2, b3⟩ := updM_f x2
      obtain ⟨c1, c2, c3⟩ := updM_f x3
      have F3 : FrJ 34 (fun j => j = 33 ∨ j = 38 ∨ j = 40) u s3 := ⟨fun o q => by rw [c1 o q, b1 o q, a1 o q], fun j q => by rw [c2 j (by omega), b2 j (by omega), a2 j (by omega)]⟩
      have Z3 : RZ s3 T N (b + 1) c (n + ((enN l).length : Int) + ((enS true (puN l)).length : Int)) ρ := Zu.st F3 (by omega) (by omega) (by omega) (by omega) (by omega) (by omega) (by rw [c2 33 (by omega), b2 33 (by omega), a3, uA_s, Zu.1.2.1])
      have R3 : RE v s3 (300 * ρ + n) (enN l ++ enS true (puN l)) := by
        refine R2.tr ?_
        rw [show 300 * ρ + n + ((enN l).length : Int) = 300 * ρ + (n + ((enN l).length : Int)) by omega]
        exact ⟨by rw [F3.2 44 (by omega)]; exact Ru.1, by rw [F3.2 45 (by omega)]; exact Ru.2⟩
      have T3 : RT s3 z := by
        obtain ⟨r1, r2, r3⟩ := Tu
        have r2 : u 34 38 0 = (if (15 : Int) = 12 ∨ (15 : Int) = 15 then 1 else 0) + dep z := r2
        rw [if_pos (Or.inr rfl)] at r2
        rw [List.length_cons] at r1
        have r3 : u 34 51 ((rl z).length : Int) = 15 - 3 ∧ stk (u 34 51) (rl z) := r3
        refine ⟨?_, ?_, by rw [F3.2 51 (by omega)]; exact r3.2⟩
        · rw [c2 40 (by omega), b3, uA_s, a2 40 (by omega), r1]; omega
        · rw [c3, uA_s, b2 38 (by omega), a2 38 (by omega), r2]; omega
      subst h5
      refine p_md_closeL hT hρ f (b + 1) _ z pc lc E2 s3 h4 m1.1 (by omega) Z3 (by rw [F3.2 34 (by omega)]; exact eu) T3 (by omega) (by omega) (fun w Fw ew Zw Rw Tw => ?_)
      have ll : (((enN l ++ enS true (puN l)) ++ E2).length : Int) = ((enN l).length : Int) + ((enS true (puN l)).length : Int) + (E2.length : Int) := by rw [List.length_append, List.length_append]; omega
      refine h w ((G2.tr Fu).tr ((F3.mono (fun j q => by unfold rwJ; omega)).tr Fw)) ew ?_ ?_ Tw
      · rw [ll, show n + (((enN l).length : Int) + ((enS true (puN l)).length : Int) + (E2.length : Int)) = n + ((enN l).length : Int) + ((enS true (puN l)).length : Int) + (E2.length : Int) by omega]
        exact Zw
      · refine R3.tr ?_
        rw [show 300 * ρ + n + ((enN l ++ enS true (puN l)).length : Int) = 300 * ρ + (n + ((enN l).length : Int) + ((enS true (puN l)).length : Int)) by rw [List.length_append]; omega]
        exact Rw
    · subst h1 h2 h3
      exact h m2 G2 e2 Z2 R2 T2
