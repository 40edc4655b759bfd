/-! ===== RULE: the reference comes to a comparison ===== -/
theorem RT.st {v m : Mem} {l : List Int} {S : Nat → Prop} (h : RT v l) (hF : FrJ 34 S v m) (h1 : ¬ S 38) (h2 : ¬ S 40) (h3 : ¬ S 51) : RT m l := by
  unfold RT
  rw [hF.2 38 h1, hF.2 40 h2, hF.2 51 h3]
  exact h
theorem p_md_openL {T : Int → Int} {N c n ρ : Int} {Q : Mem → Prop} (hT : TX T N) :
    ∀ (f : Nat) (p : Int) (l : List Int) (ro po : Int) (lo : List Int) (v : Mem), opC T N f p l ro po lo → okT l → dep l ≤ 10 → RZ v T N p c n ρ → v 34 34 0 = 0 → RT v l → (0 ≤ p ∧ p ≤ N) →
    (∀ m q', FrJ 34 rwJ v m → (0 ≤ q' ∧ q' ≤ N) → RX m T N q' → m 34 34 0 = ro → ¬ ro = 0 → (0 ≤ ro ∧ ro ≤ 5000) → (m 34 44 = v 34 44 ∧ m 34 45 = v 34 45) → Q m) →
    (ro = 0 → ∀ m, FrJ 34 rwJ v m → RZ m T N po c n ρ → m 34 34 0 = 0 → RT m lo → (m 34 44 = v 34 44 ∧ m 34 45 = v 34 45) → W_md_compared m (fun s1 => ((1 : Int) = 0 ∨ (1 : Int) = 1) → (¬ wr 1 = 0 → K_md_test_9 Q 0 1 s1) ∧ (¬ (¬ wr 1 = 0) → K_md_test_9 Q 1 1 s1))) → K_md_test_9 Q 1 1 v
  | 0, _, _, _, _, _, _, h, _, _, _, _, _, _, _, _ => absurd h id
  | f + 1, p, l, ro, po, lo, v, h, ok, hd, hZ, hf, hR, hp, hB, hG => by
    have hN := hT.1
    have hnb := sc_bd (P := blT T) hp.2
    have hlt := sc_bd (P := ltT T) hnb.2
    have hl := okT_len ok
    have h32 := okT_40 ok hd
    refine b_md_test_9 ?_
    unfold T_md_test_9 T_md_test_35 T_md_test_36
    rw [hf]
    refine br_f (by decide) (br_f (by decide) (br_f (by decide) (w_md_fact (b_md_fact_0 (p_md_blanks hT hZ.1 ⟨hp.1, by omega⟩ (fun m1 F1 C1 => ?_))))))
    unfold opC at h
    generalize sc (blT T) N p = b at hnb hlt C1 h
    have Z1 := hZ.low F1 C1
    have R1 : RT m1 l := hR.st F1 (by omega) (by omega) (by omega)
    have e1 : m1 34 34 0 = 0 := by rw [F1.2 34 (by omega)]; exact hf
    have G1 : FrJ 34 rwJ v m1 := F1.mono (fun j z => Or.inl z)
    have hpk := pk_bd hT (p := b) (by omega)
    -- one more opening
    have one : ∀ (k y pn : Int), (k = 12 ∨ k = 15) → pn = b + y → (0 ≤ pn ∧ pn ≤ N) → ((pk T N b = 91 ∧ k = 15 ∧ pn = b + 1) ∨ (¬ pk T N b = 91 ∧ isN T N b ∧ k = 12 ∧ pn = sc (ltT T) N b)) → W_md_opens (k - 3) m1 (fun s5 => ∀ s6, s6 = updM s5 34 33 0 ((s5 34 33 0) + y) → ((0 : Int) = 0 ∨ (0 : Int) = 1) → (¬ wr 0 = 0 → K_md_test_9 Q 0 1 s6) ∧ (¬ (¬ wr 0 = 0) → K_md_test_9 Q 1 1 s6)) := fun k y pn hk ep hpn hkp => by
      refine p_md_opensT (by omega) C1 e1 R1 (by omega) (by omega) (fun m2 F2 h1 h2 s6 x6 _ => br_f (by decide) ?_)
      obtain ⟨a1, a2, a3⟩ := updM_f x6
      have F6 : FrJ 34 (fun j => j = 33 ∨ j = 34 ∨ j = 38 ∨ j = 40 ∨ j = 51) m1 s6 := (F2.mono (fun j w => Or.inr w)).tr ⟨a1, fun j w => a2 j (by omega)⟩
      have G6 : FrJ 34 rwJ v s6 := G1.tr (F6.mono (fun j w => by unfold rwJ; omega))
      have C6 : RX s6 T N pn := C1.st F6 (by omega) (by omega) (by rw [a3, uA_s, F2.2 33 (by omega), C1.2.1, ep])
      have e44 : s6 34 44 = v 34 44 := by rw [F6.2 44 (by omega), F1.2 44 (by omega)]
      have e45 : s6 34 45 = v 34 45 := by rw [F6.2 45 (by omega), F1.2 45 (by omega)]
      have hrest : (10 ≤ dep l ∧ ro = 1 + 8 * b + 2) ∨ (dep l < 10 ∧ opC T N f pn (k :: l) ro po lo) := by
        rcases h with ⟨w1, w2, _⟩ | ⟨k', pn', w, w2⟩
        · rcases hkp with ⟨w3, _⟩ | ⟨_, w3, _⟩
          · exact absurd w3 w1
          · exact absurd w3 w2
        · have : k' = k ∧ pn' = pn := by
            rcases w with ⟨u1, u2, u3⟩ | ⟨u1, _, u2, u3⟩
            · rcases hkp with ⟨_, u4, u5⟩ | ⟨u4, _⟩
              · exact ⟨by omega, by omega⟩
              · exact absurd u1 u4
            · rcases hkp with ⟨u4, _⟩ | ⟨_, _, u4, u5⟩
              · exact absurd u4 u1
              · exact ⟨by omega, by omega⟩
          rw [this.1, this.2] at w2
          exact w2
      rcases hrest with ⟨w1, w2⟩ | ⟨w1, w2⟩
      · have e6 : s6 34 34 0 = ro := by rw [a2 34 (by omega), w2]; exact h1 hk (by omega)
        refine b_md_test_9 ?_
        unfold T_md_test_9 T_md_test_202
        rw [e6, wr_id (x := ro) (by omega) (by omega)]
        exact br_f (by decide) (br_t (by omega) (hB s6 pn G6 hpn C6 e6 (by omega) (by omega) ⟨e44, e45⟩))
      · obtain ⟨g1, g2⟩ := h2 (Or.inr w1)
        have dk : dep (k :: l) = 1 + dep l := by
          show (if k = 12 ∨ k = 15 then (1 : Int) else 0) + dep l = _
          rw [if_pos hk]
        have Z6 : RZ s6 T N pn c n ρ := Z1.st F6 (by omega) (by omega) (by omega) (by omega) (by omega) (by omega) C6.2.1
        have R6 : RT s6 (k :: l) := g2.st (S := fun j => j = 33) ⟨a1, fun j w => a2 j w⟩ (by omega) (by omega) (by omega)
        refine p_md_openL hT f pn (k :: l) ro po lo s6 w2 ⟨ok, hk.elim Or.inl (fun z => Or.inr (Or.inl z))⟩ (by omega) Z6 (by rw [a2 34 (by omega)]; exact g1) R6 hpn (fun m q' i1 i2 i3 i4 i5 i6 i7 => hB m q' (G6.tr i1) i2 i3 i4 i5 i6 ⟨by rw [i7.1, e44], by rw [i7.2, e45]⟩) (fun z m i1 i2 i3 i4 i5 => hG z m (G6.tr i1) i2 i3 i4 ⟨by rw [i5.1, e44], by rw [i5.2, e45]⟩)
    refine p_md_stood (k := 14) rfl (by decide) hT C1 (by omega) (fun hq => fun _ => br_f (by decide) ?_) (fun hq => fun _ => br_t (by decide) ?_)
    · have hn : isN T N b := hq
      have h91 := isN_91 hn (by omega)
      have hlen := wq_len hq
      exact one 12 3 (sc (ltT T) N b) (Or.inl rfl) (by have : ((cvL.getD (14 + 1) []).length : Int) = 3 := rfl; omega) (by omega) (Or.inr ⟨by omega, hn, rfl, rfl⟩)
    · have hn : ¬ isN T N b := hq
      unfold T_md_fact_32 T_md_fact_59
      refine p_md_sign hT C1 ⟨by omega, by omega⟩ ?_
      rw [wr_id (x := pk T N b) (by omega) (by omega)]
      refine ⟨fun z => ?_, fun z => ?_⟩
      · rcases h with ⟨_, _, w1, w2, w3⟩ | ⟨k', pn', w, _⟩
        · subst w2 w3
          exact hG w1 m1 G1 Z1 e1 R1 ⟨F1.2 44 (by omega), F1.2 45 (by omega)⟩
        · rcases w with ⟨w, _⟩ | ⟨_, w, _⟩
          · exact absurd w z
          · exact absurd w hn
      · have z := Decidable.byContradiction z
        have hbN := pkT_lt (T := T) (N := N) (p := b) (by omega)
        exact one 15 1 (b + 1) (Or.inr rfl) rfl (by omega) (Or.inl ⟨z, rfl, rfl⟩)
