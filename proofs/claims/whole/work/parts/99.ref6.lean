/-! ===== RULE: the reference reads a TEST ===== -/
theorem clsC_end {T : Int → Int} {N : Int} : ∀ (f : Nat) (p p' : Int) (l l' : List Int) (E : List (Int × Int)), okT l → clsC T N f p l p' l' E → ¬ (pk T N p' = 93 ∧ 0 < opn l')
  | 0, _, _, _, _, _, _, h => absurd h id
  | f + 1, p, p', l, l', E, ok, h => by
    obtain ⟨k1, k2, _⟩ := puN_ok ok
    rcases h with ⟨_, _, z, E2, h3, h4, _⟩ | ⟨h0, h1, h2, _⟩
    · have m1 := (puS_ok (a := true) k1).1
      rw [h3] at m1
      exact clsC_end f _ p' z l' E2 m1.1 h4
    · subst h1 h2
      rw [k2]
      exact h0
theorem p_test_bad {v : Mem} {Q : Mem → Prop} {a : Int} (hne : ¬ v 34 34 0 = 0) (hb : 0 ≤ v 34 34 0 ∧ v 34 34 0 ≤ 100000) (h : Q v) : K_md_test_9 Q a 1 v := by
  refine b_md_test_9 ?_
  unfold T_md_test_9 T_md_test_202
  rw [wr_id (x := v 34 34 0) (by omega) (by omega)]
  exact br_f (by decide) (br_t hne h)
theorem p_md_testL {T : Int → Int} {N ρ : Int} {Q : Mem → Prop} (hT : TX T N) (hρ : 0 ≤ ρ ∧ ρ < 6) :
    ∀ (f : Nat) (p c n : Int) (l : List Int) (r p' c' : Int) (E : List (Int × Int)) (v : Mem), teC T N f p c l r p' c' E → okT l → dep l ≤ 10 → RZ v T N p c n ρ → v 34 34 0 = 0 → RT v l → (0 ≤ p ∧ p ≤ N) → (0 ≤ c ∧ c ≤ 60) → (0 ≤ n ∧ 3 * (n + (l.length : Int)) ≤ 14 * c + 3) →
    (∀ m q', FrJ 34 rwJ v m → (0 ≤ q' ∧ q' ≤ N + 1) → RX m T N q' → m 34 34 0 = r → (0 ≤ r ∧ r ≤ 100000) → Low v m (300 * ρ + n) → (r = 0 → RZ m T N p' c' (n + (E.length : Int)) ρ ∧ m 34 38 0 = 0 ∧ RE v m (300 * ρ + n) E) → Q m) → K_md_test_9 Q 1 1 v
  | 0, _, _, _, _, _, _, _, _, _, h, _, _, _, _, _, _, _, _, _ => absurd h id
  | f + 1, p, c, n, l, r, p', c', E, v, hte, ok, hd, hZ, hf, hR, hp, hc, hn, h => by
    have hN := hT.1
    have hl := okT_len ok
    obtain ⟨ro, po, lo, ho, hte⟩ := hte
    refine p_md_openL (c := c) (n := n) (ρ := ρ) hT _ p l ro po lo v ho ok hd hZ hf hR hp (fun m q' F hq C e ne rb L => ?_) (fun r0 m1 F1 Z1 e1 R1 L1 => ?_)
    · have er : r = ro := by
        rcases hte with ⟨_, z⟩ | ⟨z, _⟩
        · exact z
        · exact absurd z ne
      subst er
      exact h m q' F (by omega) C e (by omega) (Low.eq L.1 L.2) (fun z => absurd z ne)
    subst r0
    have hte2 := hte.resolve_left (fun z => z.1 rfl)
    clear hte
    obtain ⟨_, rf, pf, cf, Ef, hfa, hte⟩ := hte2
    obtain ⟨a1, a2, a3, a4, a5⟩ := opC_ok2 _ _ _ _ _ hp ok hd ho
    have h40 := okT_40 a2 a3
    refine p_md_compared (c := c) (n := n) (ρ := ρ) hT hρ Z1 e1 a1 hc (by omega) hfa (fun m2 q2 F2 P2 C2 B2 e2 L2 g2 _ => br_t (by decide) ?_)
    have G2 : FrJ 34 rwJ v m2 := F1.tr (F2.mono (fun j w => by unfold rvJ at w; unfold rwJ; omega))
    have L02 : Low v m2 (300 * ρ + n) := (Low.eq L1.1 L1.2 : Low v m1 (300 * ρ + n)).tr L2 (Int.le_refl _)
    by_cases rz : rf = 0
    · subst rz
      obtain ⟨Z2, R2⟩ := g2 rfl
      have hte2 := hte.resolve_left (fun z => z.1 rfl)
      clear hte
      obtain ⟨_, pc, lc, Ec, hcl, x, hx, hte⟩ := hte2
      obtain ⟨b1, b2, b3, b4, _, _⟩ := faC_ok a1 hc.1 hfa
      obtain ⟨d1, d2, d3, d4, d5, d6, d7⟩ := clsC_ok2 _ _ _ _ _ _ a2 b3 hcl
      have T2 : RT m2 lo := R1.st F2 (by unfold rvJ; omega) (by unfold rvJ; omega) (by unfold rvJ; omega)
      have R02 : RE v m2 (300 * ρ + n) Ef := ⟨by rw [← L1.1]; exact R2.1, by rw [← L1.2]; exact R2.2⟩
      refine p_md_closeL hT hρ 11 pf _ lo pc lc Ec m2 hcl a2 a3 Z2 e2 T2 b3 (by clear hte; omega) (fun m3 F3 e3 Z3 R3 T3 => ?_)
      have G3 : FrJ 34 rwJ v m3 := G2.tr F3
      have ll : ((Ef ++ Ec).length : Int) = (Ef.length : Int) + (Ec.length : Int) := by rw [List.length_append]; omega
      have R03 : RE v m3 (300 * ρ + n) (Ef ++ Ec) := R02.tr (by rw [show 300 * ρ + n + (Ef.length : Int) = 300 * ρ + (n + (Ef.length : Int)) by omega]; exact R3)
      have hol := okT_len d2
      obtain ⟨y1, y2, y3, y4⟩ := puS_ok (a := true) d2
      rcases hte with ⟨hx1, hr, hp', hc', hE⟩ | ⟨a, hxa, E5, h5, hE⟩
      · -- no word behind it
        subst hx1
        refine p_J40n hT hρ hx d2 (by omega) Z3 e3 T3 d1 (by omega) (fun u Fu eu Zu Ru Tu => ?_)
        have R04 : RE v u (300 * ρ + n) ((Ef ++ Ec) ++ enS true lc) := R03.tr (by rw [ll, show 300 * ρ + n + ((Ef.length : Int) + (Ec.length : Int)) = 300 * ρ + (n + (Ef.length : Int) + (Ec.length : Int)) by omega]; exact Ru)
        unfold U131
        rcases puS_top d2 d7 with w | ⟨w, w2⟩
        · rw [w] at Tu y2
          have y2 : (0 : Int) = opn lc := y2
          rw [if_neg (by omega)] at hr
          refine p_md_top Tu (by decide) ?_
          refine br_t (show ¬ wr (-1) = 12 by decide) (b_md_test_9 ?_)
          unfold T_md_test_9 T_md_test_202
          refine br_t (by decide) ?_
          subst hp' hc' hE
          refine h u p' (G3.tr Fu) (by omega) Zu.1 (by omega) (by omega) R04.low (fun _ => ⟨?_, Tu.2.1, R04⟩)
          rw [List.length_append, List.length_append, show n + ((Ef.length + Ec.length + (enS true lc).length : Nat) : Int) = n + (Ef.length : Int) + (Ec.length : Int) + ((enS true lc).length : Int) by omega]
          exact Zu
        · rw [w2] at Tu y1 y2 y3 y4
          have y2 : (if (15 : Int) = 15 then 1 else 0) + opn w = opn lc := y2
          rw [if_pos rfl] at y2
          rw [List.length_cons] at y4
          have hw := okT_len y1.1
          rw [if_pos (by omega)] at hr
          have hn93 : ¬ pk T N pc = 93 := fun z => clsC_end _ _ _ _ _ _ a2 hcl ⟨z, by omega⟩
          have hpk := pk_bd hT (p := pc) (by omega)
          refine p_md_top Tu (by rw [List.length_cons]; omega) ?_
          refine br_f (show ¬ (¬ wr ((15 : Int) - 3) = 12) by decide) (p_md_sign hT Zu.1 ⟨by omega, by omega⟩ ?_)
          rw [wr_id (x := pk T N pc) (by omega) (by omega), Zu.1.2.1]
          refine br_f hn93 (p_md_fails eu (by omega) (fun m5 F5 e5 => ?_))
          rw [flt_0] at e5
          unfold T_md_test_164 T_md_test_199
          intro s1 x1 s2 x2 s3 x3
          obtain ⟨a1', a2', a3'⟩ := updM_f x1
          obtain ⟨b1', b2', b3'⟩ := updM_f x2
          obtain ⟨c1', c2', c3'⟩ := updM_f x3
          have F6 : FrJ 34 (fun j => j = 33 ∨ j = 34 ∨ j = 38 ∨ j = 40) u s3 := ⟨fun o q => by rw [c1' o q, b1' o q, a1' o q, F5.1 o q], fun j q => by rw [c2' j (by omega), b2' j (by omega), a2' j (by omega), F5.2 j (by omega)]⟩
          have e6 : s3 34 34 0 = r := by rw [c2' 34 (by omega), b2' 34 (by omega), a2' 34 (by omega), e5, hr]
          have C6 : RX s3 T N (pc + 1) := Zu.1.st F6 (by omega) (by omega) (by rw [c2' 33 (by omega), b2' 33 (by omega), a3', uA_s, F5.2 33 (by omega), Zu.1.2.1])
          exact p_test_bad (by omega) (by omega) (h s3 (pc + 1) ((G3.tr Fu).tr (F6.mono (fun j q => by unfold rwJ; omega))) (by omega) C6 e6 (by omega) (R04.low.tr (Low.eq (F6.2 44 (by omega)) (F6.2 45 (by omega))) (Int.le_refl _)) (fun z => by omega))
      · -- a join, and another FACT
        subst hxa
        obtain ⟨j1, j2, j3⟩ := jn_len (a := a) d2
        have hlt := sc_bd (P := ltT T) d1.2
        refine p_J40j (a := a) hT hρ hx d2 d7 (by omega) Z3 e3 T3 d1 (by omega) (fun u Fu eu Zu Ru Tu => ?_)
        have R04 : RE v u (300 * ρ + n) ((Ef ++ Ec) ++ enS a lc) := R03.tr (by rw [ll, show 300 * ρ + n + ((Ef.length : Int) + (Ec.length : Int)) = 300 * ρ + (n + (Ef.length : Int) + (Ec.length : Int)) by omega]; exact Ru)
        have ll2 : (((Ef ++ Ec) ++ enS a lc).length : Int) = (Ef.length : Int) + (Ec.length : Int) + ((enS a lc).length : Int) := by rw [List.length_append]; omega
        refine p_md_testL hT hρ f _ cf _ _ r p' c' E5 u h5 (okT_jn d2 d7) (by omega) Zu eu Tu (by omega) (by omega) (by omega) (fun m q' i1 i2 i3 i4 i5 i6 i7 => ?_)
        refine h m q' ((G3.tr Fu).tr i1) i2 i3 i4 i5 (R04.low.tr i6 (by omega)) (fun z => ?_)
        obtain ⟨q1, q3, q2⟩ := i7 z
        subst hE
        refine ⟨?_, q3, R04.tr (by rw [ll2, show 300 * ρ + n + ((Ef.length : Int) + (Ec.length : Int) + ((enS a lc).length : Int)) = 300 * ρ + (n + (Ef.length : Int) + (Ec.length : Int) + ((enS a lc).length : Int)) by omega]; exact q2)⟩
        have ll3 : ((((Ef ++ Ec) ++ enS a lc) ++ E5).length : Int) = (Ef.length : Int) + (Ec.length : Int) + ((enS a lc).length : Int) + (E5.length : Int) := by rw [List.length_append]; omega
        rw [ll3, show n + ((Ef.length : Int) + (Ec.length : Int) + ((enS a lc).length : Int) + (E5.length : Int)) = n + (Ef.length : Int) + (Ec.length : Int) + ((enS a lc).length : Int) + (E5.length : Int) by omega]
        exact q1
    · have er : r = rf := by
        rcases hte with ⟨_, z⟩ | ⟨z, _⟩
        · exact z
        · exact absurd z rz
      subst er
      exact p_test_bad (by omega) (by omega) (h m2 q2 G2 (by omega) C2 e2 (by omega) L02 (fun z => absurd z rz))
theorem p_md_test {T : Int → Int} {N ρ p c n r p' c' : Int} {E : List (Int × Int)} {v : Mem} {Q : Mem → Prop} (hT : TX T N) (hρ : 0 ≤ ρ ∧ ρ < 6) (hte : teC T N (61 - c).toNat p c [] r p' c' E) (hZ : RZ v T N p c n ρ) (hf : v 34 34 0 = 0) (h38 : v 34 38 0 = 0) (hp : 0 ≤ p ∧ p ≤ N) (hc : 0 ≤ c ∧ c ≤ 60) (hn : 0 ≤ n ∧ 3 * n ≤ 14 * c + 3)
    (h : ∀ m q', FrJ 34 rwJ v m → (0 ≤ q' ∧ q' ≤ N + 1) → RX m T N q' → m 34 34 0 = r → (0 ≤ r ∧ r ≤ 100000) → Low v m (300 * ρ + n) → (r = 0 → RZ m T N p' c' (n + (E.length : Int)) ρ ∧ m 34 38 0 = 0 ∧ RE v m (300 * ρ + n) E) → Q m) : W_md_test v Q := by
  refine w_md_test (b_md_test_0 ?_)
  intro s1 x1
  obtain ⟨a1, a2, a3⟩ := updM_f x1
  have F1 : FrJ 34 (fun j => j = 40) v s1 := ⟨a1, fun j q => a2 j q⟩
  have R1 : RT s1 [] := ⟨by rw [a3, uA_s]; rfl, by rw [a2 38 (by omega)]; exact h38, trivial⟩
  refine p_md_testL hT hρ _ p c n [] r p' c' E s1 hte trivial (by show (0 : Int) ≤ 10; decide) (hZ.st F1 (by omega) (by omega) (by omega) (by omega) (by omega) (by omega) (by rw [a2 33 (by omega)]; exact hZ.1.2.1)) (by rw [a2 34 (by omega)]; exact hf) R1 hp hc ⟨hn.1, by show 3 * (n + ((0 : Nat) : Int)) ≤ _; omega⟩ (fun m q' i1 i2 i3 i4 i5 i6 i7 => ?_)
  refine h m q' ((F1.mono (fun j q => by unfold rwJ; omega)).tr i1) i2 i3 i4 i5 ((Low.eq (a2 44 (by omega)) (a2 45 (by omega)) : Low v s1 (300 * ρ + n)).tr i6 (Int.le_refl _)) (fun z => ?_)
  obtain ⟨q1, q2, q3⟩ := i7 z
  exact ⟨q1, q2, by rw [← a2 44 (by omega)]; exact q3.1, by rw [← a2 45 (by omega)]; exact q3.2⟩
