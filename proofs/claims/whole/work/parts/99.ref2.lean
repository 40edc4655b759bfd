/-! ===== RULE: the reference answers what waits ===== -/
theorem p_md_answers {k : Int} {T : Int → Int} {N p c ρ : Int} {Q : Mem → Prop} (hk : k = 12 ∨ k = 13 ∨ k = 14) (hρ : 0 ≤ ρ ∧ ρ < 6) : ∀ (l : List Int) (n : Int) (v : Mem), okT l → dep l ≤ 10 → RZ v T N p c n ρ → v 34 34 0 = 0 → RT v l → (0 ≤ n ∧ n + (l.length : Int) ≤ 299) → (l.length : Int) ≤ 100 →
    (∀ m, FrJ 34 rwJ v m → m 34 34 0 = 0 → RZ m T N p c (n + ((enK k l).length : Int)) ρ → RE v m (300 * ρ + n) (enK k l) → RT m (puK k l) → Q m) → K_md_answers_0 Q (k - 3) v
  | [], n, v, _, _, hZ, hf, hR, hn, hl, h => by
    refine b_md_answers_0 (p_md_top hR hl ?_)
    unfold T_md_answers_54
    rw [wr_id (x := k - 3) (by omega) (by omega)]
    refine br_t (by show ¬ wr (-1) = k - 3; rw [show wr (-1) = -1 from rfl]; omega) ?_
    exact h v FrJ.rf hf (by rw [show n + (((enK k []).length : Nat) : Int) = n from Int.add_zero n]; exact hZ) (RE.eq rfl rfl) hR
  | x :: r, n, v, ok, hd, hZ, hf, hR, hn, hl, h => by
    have tl := (okT_tl ok).2
    have hdl := okT_len ok
    refine b_md_answers_0 (p_md_top hR hl ?_)
    unfold puK enK at h
    unfold T_md_answers_54 T_md_answers_46 T_md_answers_47
    show (¬ wr (x - 3) = wr (k - 3) → _) ∧ (¬ (¬ wr (x - 3) = wr (k - 3)) → _)
    rw [wr_id (x := x - 3) (by omega) (by omega), wr_id (x := k - 3) (by omega) (by omega), hf]
    refine ⟨fun z => ?_, fun z => br_f (by decide) ?_⟩
    · have z : ¬ x = k := fun w => z (by omega)
      rw [if_neg z, if_neg z] at h
      exact h v FrJ.rf hf (by rw [show n + ((([] : List (Int × Int)).length : Nat) : Int) = n from Int.add_zero n]; exact hZ) (RE.eq rfl rfl) hR
    · have z : x = k := by omega
      rw [if_pos z, if_pos z] at h
      rw [List.length_cons] at hn hl
      have ek : k - 3 = kap k := by rcases hk with q | q | q <;> subst q <;> rfl
      refine p_md_entered hZ hf (by omega) (k := k) ek (fun _ => ⟨by omega, hρ⟩) (fun m F e C L _ g => ?_)
      obtain ⟨Z1, R1⟩ := g rfl
      intro s6 x6
      obtain ⟨a1, a2, a3⟩ := updM_f x6
      obtain ⟨r1, r2, r3⟩ := hR
      have r3 : v 34 51 ((rl r).length : Int) = x - 3 ∧ stk (v 34 51) (rl r) := r3
      have r2 : v 34 38 0 = (if x = 12 ∨ x = 15 then 1 else 0) + dep r := r2
      rw [List.length_cons] at r1
      have last : ∀ y s7, y = (if k = 12 then 1 else 0) → s7 = updM s6 34 38 0 (s6 34 38 0 - y) → K_md_answers_0 Q (k - 3) s7 := fun y s7 ey x7 => by
        obtain ⟨b1, b2, b3⟩ := updM_f x7
        have F7 : FrJ 34 (fun j => j = 38 ∨ j = 40) m s7 := ⟨fun o q => by rw [b1 o q, a1 o q], fun j q => by rw [b2 j (by omega), a2 j (by omega)]⟩
        have dr : dep (x :: r) = (if x = 12 ∨ x = 15 then 1 else 0) + dep r := rfl
        have Z7 : RZ s7 T N p c (n + 1) ρ := Z1.st F7 (by omega) (by omega) (by omega) (by omega) (by omega) (by omega) (by rw [F7.2 33 (by omega)]; exact C.2.1)
        have R7 : RT s7 r := by
          refine ⟨?_, ?_, by rw [F7.2 51 (by omega), F.2 51 (by omega)]; exact r3.2⟩
          · rw [b2 40 (by omega), a3, uA_s, F.2 40 (by omega), r1]; omega
          · rw [b3, uA_s, a2 38 (by omega), F.2 38 (by omega), r2, ey]
            rcases hk with q | q | q
            · rw [if_pos (by omega), if_pos q]; omega
            · rw [if_neg (by omega), if_neg (by omega)]; omega
            · rw [if_neg (by omega), if_neg (by omega)]; omega
        have hd2 : dep r ≤ 10 := by
          rw [dr] at hd
          split at hd <;> omega
        refine p_md_answers hk hρ r (n + 1) s7 ok.1 hd2 Z7 (by rw [F7.2 34 (by omega)]; exact e) R7 (by omega) (by omega) (fun u i1 i2 i3 i4 i5 => ?_)
        have R17 : RE v s7 (300 * ρ + n) [(k, 0)] := ⟨by rw [F7.2 44 (by omega)]; exact R1.1, by rw [F7.2 45 (by omega)]; exact R1.2⟩
        refine h u (((F.mono (fun j q => by unfold rwJ; omega)).tr (F7.mono (fun j q => by unfold rwJ; omega))).tr i1) i2 ?_ ?_ i5
        · rw [List.length_cons, show n + (((enK k r).length + 1 : Nat) : Int) = n + 1 + ((enK k r).length : Int) by omega]
          exact i3
        · exact R17.tr (by rw [show 300 * ρ + n + (([(k, (0 : Int))].length : Nat) : Int) = 300 * ρ + (n + 1) by show 300 * ρ + n + ((1 : Nat) : Int) = _; omega]; exact i4)
      rw [show (k - 3 = 9) = (k = 12) from propext ⟨fun w => by omega, fun w => by omega⟩]
      exact ⟨fun w s7 x7 => last 0 s7 (by rw [if_neg w]) x7, fun w s7 x7 => last 1 s7 (by rw [if_pos (Decidable.byContradiction w)]) x7⟩
