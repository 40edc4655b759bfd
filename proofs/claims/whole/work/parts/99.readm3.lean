/-! ===== RULE: the reference reads a FACT's comparison ===== -/
theorem p_ent_bad {κ y : Int} {m : Mem} {Q : Mem → Prop} (q : ¬ m 34 34 0 = 0) (qb : 0 ≤ m 34 34 0 ∧ m 34 34 0 ≤ 100000) (h : Q m) : W_md_entered κ y m Q := by
  refine w_md_entered (b_md_entered_0 ?_)
  unfold T_md_entered_0 T_md_entered_55
  rw [wr_id (x := m 34 34 0) (by omega) (by omega)]
  exact br_t q h
/-- the second SUM behind a fault -/
theorem p_cmpB {a1 a2 q y g : Int} {v : Mem} {T : Int → Int} {N : Int} {Q : Mem → Prop} (hT : TX T N) (ha : a1 = 60 ∨ a1 = 61 ∨ a1 = 62) (h2 : a2 = 0 ∨ a2 = 1) (hX : RX v T N q) (hq : 0 ≤ q + y ∧ q + y ≤ N) (h41 : v 34 41 0 = 9) (hf : v 34 34 0 = g) (hb : 0 ≤ g ∧ g ≤ 100000) (hne : ¬ g = 0)
    (h : ∀ m p', FrJ 34 rvJ v m → (0 ≤ p' ∧ p' ≤ N) → RX m T N p' → m 34 34 0 = g → (m 34 44 = v 34 44 ∧ m 34 45 = v 34 45) → Q m) : T_md_compared_90 Q a1 a2 q y v := by
  unfold T_md_compared_90 T_md_compared_110 T_md_compared_124 T_md_compared_128 T_md_compared_137 T_md_compared_139
  intro s1 x1
  obtain ⟨b1, b2, b3⟩ := updM_f x1
  have F1 : FrJ 34 (fun j => j = 33) v s1 := ⟨b1, fun j z => b2 j z⟩
  have C1 : RX s1 T N (q + y) := hX.st F1 (by omega) (by omega) (by rw [b3, uA_s])
  refine p_md_sumB hT C1 (by rw [F1.2 41 (by omega)]; exact h41) hq (by rw [F1.2 34 (by omega)]; exact hf) hb hne (fun m p' F P C e L => ?_)
  have fin : Q m := h m p' ((F1.mono (fun j z => Or.inl z)).tr F) P C e ⟨by rw [L.1, F1.2 44 (by omega)], by rw [L.2, F1.2 45 (by omega)]⟩
  have ent : ∀ κ, W_md_entered κ 0 m (fun s1 => Q s1) := fun κ => p_ent_bad (by omega) (by omega) fin
  rw [wr_id (x := a1) (by omega) (by omega), wr_id (x := a2) (by omega) (by omega)]
  exact ⟨fun _ => ⟨fun _ => ⟨fun _ => ent 8, fun _ => ent 7⟩, fun _ => ⟨fun _ => ent 4, fun _ => ent 5⟩⟩, fun _ => ent 6⟩
theorem p_md_compared {T : Int → Int} {N p c n ρ r p' c' : Int} {E : List (Int × Int)} {v : Mem} {Q : Mem → Prop} (hT : TX T N) (hρ : 0 ≤ ρ ∧ ρ < 6) (hZ : RZ v T N p c n ρ) (hf : v 34 34 0 = 0) (hp : 0 ≤ p ∧ p ≤ N) (hc : 0 ≤ c ∧ c ≤ 60) (hn : 0 ≤ n ∧ n + 2 * (61 - c) ≤ 298) (hfa : faC T N p c r p' c' E)
    (h : ∀ m q', FrJ 34 rvJ v m → (0 ≤ q' ∧ q' ≤ N) → RX m T N q' → (0 ≤ m 34 34 0 ∧ m 34 34 0 ≤ 100000) → m 34 34 0 = r → Low v m (300 * ρ + n) → (r = 0 → RZ m T N p' c' (n + (E.length : Int)) ρ ∧ RE v m (300 * ρ + n) E) → Q m) : W_md_compared v Q := by
  have hN := hT.1
  have pdm : pd (-1) = 0 := rfl
  obtain ⟨r1, p1, c1, E1, hs1, hfa⟩ := hfa
  refine w_md_compared (b_md_compared_0 (w_md_sum (b_md_sum_0 (w_md_term (b_md_term_0 ?_)))))
  have go := p_md_sumL (Q := fun s1 => W_md_sign s1 (fun r3 s2 => (wr r3 = 60 → T_md_compared_37 Q r3 s2) ∧ (¬ (wr r3 = 60) → (wr r3 = 61 → T_md_compared_37 Q r3 s2) ∧ (¬ (wr r3 = 61) → (wr r3 = 62 → T_md_compared_37 Q r3 s2) ∧ (¬ (wr r3 = 62) → W_md_fails 0 (s2 34 33 0) s2 (fun s7 => Q s7)))))) hT hρ _ (-1) (-1) p c n r1 p1 c1 E1 v hs1 hZ hf hp hc (by rw [pdm]; omega) (Or.inl rfl) (Or.inl rfl) (fun m1 q1 F1 P1 C1 B1 e1 L1 g1 => ?_)
  · unfold SumV at go
    rw [AE_0, AE_0] at go
    exact go
  · have hpk := pk_bd hT (p := q1) (by omega)
    refine p_md_sign hT C1 ⟨by omega, by omega⟩ ?_
    have m41 : m1 34 41 0 = 9 := by rw [F1.2 41 (by unfold rvJ; omega)]; exact hZ.2.2.2.2
    have m35 : m1 34 35 0 = ρ := by rw [F1.2 35 (by unfold rvJ; omega)]; exact hZ.2.2.2.1
    have m41' : ∀ m : Mem, FrJ 34 rvJ m1 m → m 34 41 0 = 9 := fun m F => by rw [F.2 41 (by unfold rvJ; omega)]; exact m41
    generalize hx : pk T N q1 = x at hpk ⊢
    have wx : wr x = x := wr_id (by omega) (by omega)
    rw [wx]
    have hlt : (x = 60 ∨ x = 61 ∨ x = 62) → q1 < N := fun z => pkT_lt (T := T) (N := N) (p := q1) (by rw [hx]; omega)
    -- behind a fault, whatever stands there
    have bad : ∀ m2, (x = 60 ∨ x = 61 ∨ x = 62) → FrJ 34 (fun j => j = 34 ∨ j = 39) m1 m2 → (0 ≤ m2 34 34 0 ∧ m2 34 34 0 ≤ 100000) → ¬ m2 34 34 0 = 0 → m2 34 34 0 = r → ∀ s2, s2 = updM m2 34 33 0 (m2 34 33 0 + 1) → (x = 61 → T_md_compared_74 Q x s2) ∧ (¬ x = 61 → W_md_sign s2 (fun r5 s4 => (¬ wr r5 = 61 → T_md_compared_74 Q x s4) ∧ (¬ (¬ wr r5 = 61) → T_md_compared_75 Q x 1 s4))) := fun m2 z F2 B2 n2 er s2 x2 => by
      obtain ⟨b1, b2, b3⟩ := updM_f x2
      have F3 : FrJ 34 (fun j => j = 33 ∨ j = 34 ∨ j = 39) m1 s2 := (F2.mono (fun j w => Or.inr w)).tr ⟨b1, fun j w => b2 j (by omega)⟩
      have C3 : RX s2 T N (q1 + 1) := C1.st F3 (by omega) (by omega) (by rw [b3, uA_s, F2.2 33 (by omega), C1.2.1])
      have e3 : s2 34 34 0 = r := by rw [b2 34 (by omega)]; exact er
      have hq := hlt z
      have R3 : FrJ 34 rvJ m1 s2 := F3.mono (fun j w => by unfold rvJ; omega)
      have fin : ∀ a2 y, (a2 = 0 ∨ a2 = 1) → q1 + 1 + y ≤ N → 0 ≤ y → T_md_compared_90 Q x a2 (q1 + 1) y s2 := fun a2 y h2 hy y0 => p_cmpB hT z h2 C3 (by omega) (m41' s2 R3) e3 (by omega) (by omega) (fun m p'' F P C e L => h m p'' (F1.tr (R3.tr F)) P C (by omega) e (L1.tr (Low.eq (by rw [L.1, F3.2 44 (by omega)]) (by rw [L.2, F3.2 45 (by omega)])) (Int.le_refl _)) (fun w => by omega))
      unfold T_md_compared_74 T_md_compared_75 T_md_compared_89
      rw [C3.2.1]
      refine ⟨fun _ => ⟨fun _ => fin 0 0 (by omega) (by omega) (by omega), fun w => absurd (by decide) w⟩, fun _ => p_md_sign hT C3 ⟨by omega, by omega⟩ ?_⟩
      have hpk2 := pk_bd hT (p := q1 + 1) (by omega)
      rw [wr_id (x := pk T N (q1 + 1)) (by omega) (by omega), C3.2.1]
      refine ⟨fun _ => ⟨fun _ => fin 0 0 (by omega) (by omega) (by omega), fun w => absurd (by decide) w⟩, fun w => ⟨fun w2 => absurd w2 (by decide), fun _ => fin 1 1 (by omega) ?_ (by omega)⟩⟩
      have := pkT_lt (T := T) (N := N) (p := q1 + 1) (by rw [Decidable.byContradiction w]; decide)
      omega
    sorry
