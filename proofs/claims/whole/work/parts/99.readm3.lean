/-! ===== RULE: the reference reads a FACT's comparison ===== -/
theorem p_ent_bad {κ y : Int} {m : Mem} {Q : Mem → Prop} (q : ¬ m 34 34 0 = 0) (qb : 0 ≤ m 34 34 0 ∧ m 34 34 0 ≤ 100000) (h : Q m) : W_md_entered κ y m Q := by
  refine w_md_entered (b_md_entered_0 ?_)
  unfold T_md_entered_0 T_md_entered_55
  rw [wr_id (x := m 34 34 0) (by omega) (by omega)]
  exact br_t q h
/-- the second SUM behind a fault -/
theorem p_cmpB {a1 a2 q y g : Int} {v : Mem} {T : Int → Int} {N : Int} {Q : Mem → Prop} (hT : TX T N) (ha : a1 = 60 ∨ a1 = 61 ∨ a1 = 62) (h2 : a2 = 0 ∨ a2 = 1) (hX : RX v T N q) (hq : 0 ≤ q + y ∧ q + y ≤ N) (h41 : v 34 41 0 = 9) (hf : v 34 34 0 = g) (hb : 0 ≤ g ∧ g ≤ 100000) (hne : ¬ g = 0)
    (h : ∀ m p', FrJ 34 rvJ v m → (0 ≤ p' ∧ p' ≤ N) → RX m T N p' → m 34 34 0 = g → (m 34 44 = v 34 44 ∧ m 34 45 = v 34 45) → Q m) : T_md_compared_90 Q a1 a2 q y v := by
  unfold T_md_compared_90 T_md_compared_110 T_md_compared_124 T_md_compared_128 T_md_compared_137 T_md_compared_139
  intro s1 x1
  obtain ⟨b1, b2, b3⟩ := updM_f x1
  have F1 : FrJ 34 (fun j => j = 33) v s1 := ⟨b1, fun j z => b2 j z⟩
  have C1 : RX s1 T N (q + y) := hX.st F1 (by omega) (by omega) (by rw [b3, uA_s])
  refine p_md_sumB hT C1 (by rw [F1.2 41 (by omega)]; exact h41) hq (by rw [F1.2 34 (by omega)]; exact hf) hb hne (fun m p' F P C e L => ?_)
  have fin : Q m := h m p' ((F1.mono (fun j z => Or.inl z)).tr F) P C e ⟨by rw [L.1, F1.2 44 (by omega)], by rw [L.2, F1.2 45 (by omega)]⟩
  have ent : ∀ κ, W_md_entered κ 0 m (fun s1 => Q s1) := fun κ => p_ent_bad (by omega) (by omega) fin
  rw [wr_id (x := a1) (by omega) (by omega), wr_id (x := a2) (by omega) (by omega)]
  exact ⟨fun _ => ⟨fun _ => ⟨fun _ => ent 8, fun _ => ent 7⟩, fun _ => ⟨fun _ => ent 4, fun _ => ent 5⟩⟩, fun _ => ent 6⟩
theorem p_md_compared {T : Int → Int} {N p c n ρ r p' c' : Int} {E : List (Int × Int)} {v : Mem} {Q : Mem → Prop} (hT : TX T N) (hρ : 0 ≤ ρ ∧ ρ < 6) (hZ : RZ v T N p c n ρ) (hf : v 34 34 0 = 0) (hp : 0 ≤ p ∧ p ≤ N) (hc : 0 ≤ c ∧ c ≤ 60) (hn : 0 ≤ n ∧ n + 2 * (61 - c) ≤ 298) (hfa : faC T N p c r p' c' E)
    (h : ∀ m q', FrJ 34 rvJ v m → (0 ≤ q' ∧ q' ≤ N) → RX m T N q' → (0 ≤ m 34 34 0 ∧ m 34 34 0 ≤ 100000) → m 34 34 0 = r → Low v m (300 * ρ + n) → (r = 0 → RZ m T N p' c' (n + (E.length : Int)) ρ ∧ RE v m (300 * ρ + n) E) → Q m) : W_md_compared v Q := by
  have hN := hT.1
  have pdm : pd (-1) = 0 := rfl
  obtain ⟨r1, p1, c1, E1, hs1, hfa⟩ := hfa
  refine w_md_compared (b_md_compared_0 (w_md_sum (b_md_sum_0 (w_md_term (b_md_term_0 ?_)))))
  have go := p_md_sumL (Q := fun s1 => W_md_sign s1 (fun r3 s2 => (wr r3 = 60 → T_md_compared_37 Q r3 s2) ∧ (¬ (wr r3 = 60) → (wr r3 = 61 → T_md_compared_37 Q r3 s2) ∧ (¬ (wr r3 = 61) → (wr r3 = 62 → T_md_compared_37 Q r3 s2) ∧ (¬ (wr r3 = 62) → W_md_fails 0 (s2 34 33 0) s2 (fun s7 => Q s7)))))) hT hρ _ (-1) (-1) p c n r1 p1 c1 E1 v hs1 hZ hf hp hc (by rw [pdm]; omega) (Or.inl rfl) (Or.inl rfl) (fun m1 q1 F1 P1 C1 B1 e1 L1 g1 => ?_)
  · unfold SumV at go
    rw [AE_0, AE_0] at go
    exact go
  · have hpk := pk_bd hT (p := q1) (by omega)
    refine p_md_sign hT C1 ⟨by omega, by omega⟩ ?_
    have m41 : m1 34 41 0 = 9 := by rw [F1.2 41 (by unfold rvJ; omega)]; exact hZ.2.2.2.2
    have m35 : m1 34 35 0 = ρ := by rw [F1.2 35 (by unfold rvJ; omega)]; exact hZ.2.2.2.1
    have m41' : ∀ m : Mem, FrJ 34 rvJ m1 m → m 34 41 0 = 9 := fun m F => by rw [F.2 41 (by unfold rvJ; omega)]; exact m41
    generalize hx : pk T N q1 = x at hpk ⊢
    have wx : wr x = x := wr_id (by omega) (by omega)
    rw [wx]
    have hlt : (x = 60 ∨ x = 61 ∨ x = 62) → q1 < N := fun z => pkT_lt (T := T) (N := N) (p := q1) (by rw [hx]; omega)
    -- behind a fault, whatever stands there
    have bad : ∀ m2, (x = 60 ∨ x = 61 ∨ x = 62) → FrJ 34 (fun j => j = 34 ∨ j = 39) m1 m2 → (0 ≤ m2 34 34 0 ∧ m2 34 34 0 ≤ 100000) → ¬ m2 34 34 0 = 0 → m2 34 34 0 = r → ∀ s2, s2 = updM m2 34 33 0 (m2 34 33 0 + 1) → (x = 61 → T_md_compared_74 Q x s2) ∧ (¬ x = 61 → W_md_sign s2 (fun r5 s4 => (¬ wr r5 = 61 → T_md_compared_74 Q x s4) ∧ (¬ (¬ wr r5 = 61) → T_md_compared_75 Q x 1 s4))) := fun m2 z F2 B2 n2 er s2 x2 => by
      obtain ⟨b1, b2, b3⟩ := updM_f x2
      have F3 : FrJ 34 (fun j => j = 33 ∨ j = 34 ∨ j = 39) m1 s2 := (F2.mono (fun j w => Or.inr w)).tr ⟨b1, fun j w => b2 j (by omega)⟩
      have C3 : RX s2 T N (q1 + 1) := C1.st F3 (by omega) (by omega) (by rw [b3, uA_s, F2.2 33 (by omega), C1.2.1])
      have e3 : s2 34 34 0 = r := by rw [b2 34 (by omega)]; exact er
      have hq := hlt z
      have R3 : FrJ 34 rvJ m1 s2 := F3.mono (fun j w => by unfold rvJ; omega)
      have fin : ∀ a2 y, (a2 = 0 ∨ a2 = 1) → q1 + 1 + y ≤ N → 0 ≤ y → T_md_compared_90 Q x a2 (q1 + 1) y s2 := fun a2 y h2 hy y0 => p_cmpB hT z h2 C3 (by omega) (m41' s2 R3) e3 (by omega) (by omega) (fun m p'' F P C e L => h m p'' (F1.tr (R3.tr F)) P C (by omega) e (L1.tr (Low.eq (by rw [L.1, F3.2 44 (by omega)]) (by rw [L.2, F3.2 45 (by omega)])) (Int.le_refl _)) (fun w => by omega))
      unfold T_md_compared_74 T_md_compared_75 T_md_compared_89
      rw [C3.2.1]
      refine ⟨fun _ => ⟨fun _ => fin 0 0 (by omega) (by omega) (by omega), fun w => absurd (by decide) w⟩, fun _ => p_md_sign hT C3 ⟨by omega, by omega⟩ ?_⟩
      have hpk2 := pk_bd hT (p := q1 + 1) (by omega)
      rw [wr_id (x := pk T N (q1 + 1)) (by omega) (by omega), C3.2.1]
      refine ⟨fun _ => ⟨fun _ => fin 0 0 (by omega) (by omega) (by omega), fun w => absurd (by decide) w⟩, fun w => ⟨fun w2 => absurd w2 (by decide), fun _ => fin 1 1 (by omega) ?_ (by omega)⟩⟩
      have := pkT_lt (T := T) (N := N) (p := q1 + 1) (by rw [Decidable.byContradiction w]; decide)
      omega
    -- a fault that the count, or one before, gave
    have badC : (x = 60 ∨ x = 61 ∨ x = 62) → (if wr (m1 34 39 0) = 60 then flt (m1 34 34 0) 3 q1 else m1 34 34 0) = r → ¬ r = 0 → (0 ≤ r ∧ r ≤ 100000) → T_md_compared_37 Q x m1 := fun z er nr br => by
      unfold T_md_compared_37
      rw [C1.2.1]
      refine p_md_isCounted rfl (by omega) (fun m2 F2 e39 e34 => ?_)
      rw [er] at e34
      rw [wx]
      exact bad m2 z F2 (by omega) (by omega) e34
    -- no comparison there
    have noC : flt (m1 34 34 0) 0 q1 = r → ¬ r = 0 → (0 ≤ r ∧ r ≤ 100000) → W_md_fails 0 (m1 34 33 0) m1 (fun s7 => Q s7) := fun er nr br => by
      rw [C1.2.1]
      refine p_md_fails rfl (by omega) (fun u Fu eu => ?_)
      rw [er] at eu
      exact h u q1 (F1.tr (Fu.mono (fun j w => by unfold rvJ; omega))) P1 (C1.st Fu (by omega) (by omega) (by rw [Fu.2 33 (by omega)]; exact C1.2.1)) (by omega) eu (L1.tr (Low.eq (Fu.2 44 (by omega)) (Fu.2 45 (by omega))) (Int.le_refl _)) (fun w => absurd w nr)
    rcases hfa with ⟨hr, er⟩ | ⟨h0, r2, p2, k, hsg, hfa⟩
    · subst er
      rw [← e1] at hr
      have c1' : flt (m1 34 34 0) 0 q1 = r := by rw [flt_n hr]; exact e1
      have c2' : (if wr (m1 34 39 0) = 60 then flt (m1 34 34 0) 3 q1 else m1 34 34 0) = r := by
        rw [flt_n hr]
        split <;> exact e1
      exact ⟨fun z => badC (by omega) c2' (by omega) (by omega), fun _ => ⟨fun z => badC (by omega) c2' (by omega) (by omega), fun _ => ⟨fun z => badC (by omega) c2' (by omega) (by omega), fun _ => noC c1' (by omega) (by omega)⟩⟩⟩
    · subst h0
      obtain ⟨Z1, R1⟩ := g1 rfl
      have eq1 : q1 = p1 := by rw [← C1.2.1]; exact Z1.1.2.1
      subst eq1
      obtain ⟨k1, k2, k3, k4, k5, k6⟩ := smC_ok _ _ _ _ _ _ _ _ hp hc.1 (Or.inl rfl) (Or.inl rfl) hs1
      rw [pdm] at k2
      have c39 : m1 34 39 0 = c1 := Z1.2.1
      have hsg2 := hsg
      unfold sgC at hsg
      rw [hx] at hsg
      rcases hsg with ⟨z, er2⟩ | ⟨z, ⟨hc60, er2⟩ | ⟨hc60, er2, hpk2⟩⟩
      · have er : r = r2 := by
          rcases hfa with ⟨_, w⟩ | ⟨w, _⟩
          · exact w
          · omega
        exact ⟨fun z2 => absurd (Or.inl z2) z, fun _ => ⟨fun z2 => absurd (Or.inr (Or.inl z2)) z, fun _ => ⟨fun z2 => absurd (Or.inr (Or.inr z2)) z, fun _ => noC (by rw [e1, flt_0]; omega) (by omega) (by omega)⟩⟩⟩
      · have er : r = r2 := by
          rcases hfa with ⟨_, w⟩ | ⟨w, _⟩
          · exact w
          · omega
        have cc : (if wr (m1 34 39 0) = 60 then flt (m1 34 34 0) 3 q1 else m1 34 34 0) = r := by
          rw [c39, wr_id (x := c1) (by omega) (by omega), if_pos (by omega), e1, flt_0]
          omega
        exact ⟨fun z2 => badC z cc (by omega) (by omega), fun _ => ⟨fun z2 => badC z cc (by omega) (by omega), fun _ => ⟨fun z2 => badC z cc (by omega) (by omega), fun z2 => by omega⟩⟩⟩
      · subst er2
        obtain ⟨y1, y2, y3⟩ := sgC_ok P1 hsg2
        have hfa := hfa.resolve_left (fun w => w.1 rfl)
        obtain ⟨_, r3, E3, hs3, hfa⟩ := hfa
        -- the second SUM
        have good : ∀ m2, FrJ 34 (fun j => j = 34 ∨ j = 39) m1 m2 → m2 34 39 0 = m1 34 39 0 + 1 → m2 34 34 0 = 0 → ∀ s2, s2 = updM m2 34 33 0 (m2 34 33 0 + 1) → ∀ s3 : Mem, FrJ 34 (fun j => j = 33) s2 s3 → ∀ a2, RX s3 T N p2 → (∀ κ, κ = kap k → ∀ m, W_md_entered κ 0 m Q → (¬ x = 61 → T_md_compared_110 Q x a2 m) ∧ (¬ (¬ x = 61) → T_md_compared_139 Q 6 m)) → W_md_sum s3 (fun s2 => (¬ x = 61 → T_md_compared_110 Q x a2 s2) ∧ (¬ (¬ x = 61) → T_md_compared_139 Q 6 s2)) := fun m2 F2 e39 e34 s2 x2 s3 F3 a2 C3 hent => by
          obtain ⟨b1, b2, b3⟩ := updM_f x2
          have F23 : FrJ 34 (fun j => j = 33 ∨ j = 34 ∨ j = 39) m1 s3 := (F2.mono (fun j w => Or.inr w)).tr (FrJ.tr ⟨b1, fun j w => b2 j (by omega)⟩ (F3.mono (fun j w => Or.inl w)))
          have e3 : s3 34 34 0 = 0 := by rw [F3.2 34 (by omega), b2 34 (by omega)]; exact e34
          have Z3 : RZ s3 T N p2 (c1 + 1) (n + (E1.length : Int)) ρ := ⟨C3, by rw [F3.2 39 (by omega), b2 39 (by omega), e39, c39], by rw [F23.2 37 (by omega)]; exact Z1.2.2.1, by rw [F23.2 35 (by omega)]; exact m35, by rw [F23.2 41 (by omega)]; exact m41⟩
          have R3 : RE v s3 (300 * ρ + n) E1 := ⟨by rw [F23.2 44 (by omega)]; exact R1.1, by rw [F23.2 45 (by omega)]; exact R1.2⟩
          have F13 : FrJ 34 rvJ v s3 := F1.tr (F23.mono (fun j w => by unfold rvJ; omega))
          have go := p_md_sumL (Q := fun s2 => (¬ x = 61 → T_md_compared_110 Q x a2 s2) ∧ (¬ (¬ x = 61) → T_md_compared_139 Q 6 s2)) hT hρ _ (-1) (-1) p2 (c1 + 1) (n + (E1.length : Int)) r3 p' c' E3 s3 hs3 Z3 e3 y2 (by omega) (by rw [pdm]; omega) (Or.inl rfl) (Or.inl rfl) (fun m q' i1 i2 i3 i4 i5 i6 i7 => hent _ rfl m ?_)
          · unfold SumV at go
            rw [AE_0, AE_0] at go
            exact w_md_sum (b_md_sum_0 (w_md_term (b_md_term_0 go)))
          · have L3 : Low v m (300 * ρ + n) := R3.low.tr i6 (by omega)
            rcases hfa with ⟨z3, er⟩ | ⟨z3, er, hE⟩
            · exact p_ent_bad (by omega) (by omega) (h m q' (F13.tr i1) i2 i3 i4 (by omega) L3 (fun w => by omega))
            · obtain ⟨Z4, R4⟩ := i7 z3
              obtain ⟨l1, l2, l3, _⟩ := smC_ok _ (-1) (-1) p2 (c1 + 1) p' c' E3 y2 (by omega) (Or.inl rfl) (Or.inl rfl) (by rw [z3] at hs3; exact hs3)
              rw [pdm] at l2
              refine p_md_entered Z4 (f := 0) (by omega) (by omega) rfl (fun _ => ⟨by omega, hρ⟩) (fun m5 F5 e5 C5 L5 _ g5 => ?_)
              obtain ⟨Z5, R5⟩ := g5 rfl
              have R45 : RE v m (300 * ρ + n) (E1 ++ E3) := R3.tr (by rw [show 300 * ρ + n + (E1.length : Int) = 300 * ρ + (n + (E1.length : Int)) by omega]; exact R4)
              have ll : ((E1 ++ E3).length : Int) = (E1.length : Int) + (E3.length : Int) := by rw [List.length_append]; omega
              have R6 : RE v m5 (300 * ρ + n) ((E1 ++ E3) ++ [(k, 0)]) := R45.tr (by rw [ll, show 300 * ρ + n + ((E1.length : Int) + (E3.length : Int)) = 300 * ρ + (n + (E1.length : Int) + (E3.length : Int)) by omega]; exact R5)
              subst hE
              refine h m5 p' (F13.tr (i1.tr (F5.mono (fun j w => by unfold rvJ; omega)))) l3 (Z5.1)  (by omega) (by omega) R6.low (fun _ => ⟨?_, R6⟩)
              rw [List.length_append, List.length_append, show n + ((E1.length + E3.length + [(k, (0 : Int))].length : Nat) : Int) = n + (E1.length : Int) + (E3.length : Int) + 1 by show n + ((E1.length + E3.length + 1 : Nat) : Int) = _; omega]
              exact Z5
        have t37 : T_md_compared_37 Q x m1 := by
          unfold T_md_compared_37
          rw [C1.2.1]
          refine p_md_isCounted rfl (by omega) (fun m2 F2 e39 e34 s2 x2 => ?_)
          rw [c39, wr_id (x := c1) (by omega) (by omega), if_neg (by omega), e1] at e34
          have gd := good m2 F2 e39 e34 s2 x2
          obtain ⟨b1, b2, b3⟩ := updM_f x2
          have F3 : FrJ 34 (fun j => j = 33 ∨ j = 34 ∨ j = 39) m1 s2 := (F2.mono (fun j w => Or.inr w)).tr ⟨b1, fun j w => b2 j (by omega)⟩
          have C3 : RX s2 T N (q1 + 1) := C1.st F3 (by omega) (by omega) (by rw [b3, uA_s, F2.2 33 (by omega), C1.2.1])
          have hq := hlt z
          -- with so much behind the sign
          have fin : ∀ a2 y, (a2 = 0 ∨ a2 = 1) → p2 = q1 + 1 + y → (a2 = 0 → k = (if x = 60 then 7 else if x = 61 then 9 else 11)) → (a2 = 1 → ¬ x = 61 ∧ k = (if x = 60 then 8 else 10)) → T_md_compared_90 Q x a2 (q1 + 1) y s2 := fun a2 y ha ep ek0 ek1 => by
            unfold T_md_compared_90
            intro s3 x3
            obtain ⟨d1, d2, d3⟩ := updM_f x3
            have F4 : FrJ 34 (fun j => j = 33) s2 s3 := ⟨d1, fun j w => d2 j w⟩
            rw [wx]
            refine gd s3 F4 a2 (C3.st F4 (by omega) (by omega) (by rw [d3, uA_s, ep])) (fun κ eκ m hm => ?_)
            unfold T_md_compared_110 T_md_compared_124 T_md_compared_128 T_md_compared_137 T_md_compared_139
            rw [wx, wr_id (x := a2) (by omega) (by omega)]
            have ke : ∀ κ', κ' = kap k → W_md_entered κ' 0 m (fun s1 => Q s1) := fun κ' e => by rw [e, ← eκ]; exact hm
            have kk : kap 7 = 4 ∧ kap 8 = 5 ∧ kap 9 = 6 ∧ kap 10 = 7 ∧ kap 11 = 8 := ⟨rfl, rfl, rfl, rfl, rfl⟩
            obtain ⟨q7, q8, q9, q10, q11⟩ := kk
            refine ⟨fun w => ⟨fun w2 => ⟨fun w3 => ke 8 ?_, fun w3 => ke 7 ?_⟩, fun w2 => ⟨fun w3 => ke 4 ?_, fun w3 => ke 5 ?_⟩⟩, fun w => ke 6 ?_⟩
            · have := ek0 w3
              rw [if_neg w2, if_neg w] at this
              rw [this, q11]
            · have := (ek1 (by omega)).2
              rw [if_neg w2] at this
              rw [this, q10]
            · have := ek0 w3
              rw [if_pos (Decidable.byContradiction w2)] at this
              rw [this, q7]
            · have := (ek1 (by omega)).2
              rw [if_pos (Decidable.byContradiction w2)] at this
              rw [this, q8]
            · have w := Decidable.byContradiction w
              have a0 : a2 = 0 := ha.resolve_right (fun w2 => (ek1 w2).1 w)
              have := ek0 a0
              rw [if_neg (by omega), if_pos w] at this
              rw [this, q9]
          unfold T_md_compared_74 T_md_compared_75 T_md_compared_89
          rw [wx, C3.2.1]
          have hE : sgE T N q1 ↔ ¬ x = 61 ∧ pk T N (q1 + 1) = 61 := by unfold sgE; rw [hx]
          rw [hE] at hpk2
          refine ⟨fun w => ⟨fun _ => ?_, fun w2 => absurd (by decide) w2⟩, fun w => p_md_sign hT C3 ⟨by omega, by omega⟩ ?_⟩
          · rcases hpk2 with ⟨w2, _⟩ | ⟨_, w2, w3⟩
            · exact absurd w w2.1
            · exact fin 0 0 (Or.inl rfl) (by omega) (fun _ => w3) (fun w4 => absurd w4 (by decide))
          · have hpk3 := pk_bd hT (p := q1 + 1) (by omega)
            rw [wr_id (x := pk T N (q1 + 1)) (by omega) (by omega), C3.2.1]
            refine ⟨fun w2 => ⟨fun _ => ?_, fun w3 => absurd (by decide) w3⟩, fun w2 => ⟨fun w3 => absurd w3 (by decide), fun _ => ?_⟩⟩
            · rcases hpk2 with ⟨w3, _⟩ | ⟨_, w3, w4⟩
              · exact absurd w3.2 w2
              · exact fin 0 0 (Or.inl rfl) (by omega) (fun _ => w4) (fun w5 => absurd w5 (by decide))
            · rcases hpk2 with ⟨w3, w4, w5⟩ | ⟨w3, _⟩
              · exact fin 1 1 (Or.inr rfl) (by omega) (fun w6 => absurd w6 (by decide)) (fun _ => ⟨w, w5⟩)
              · exact absurd ⟨w, Decidable.byContradiction w2⟩ w3
        exact ⟨fun _ => t37, fun u1 => ⟨fun _ => t37, fun u2 => ⟨fun _ => t37, fun u3 => absurd z (by omega)⟩⟩⟩
