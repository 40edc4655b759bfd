/-! ===== RULE: the reference's openings ===== -/
theorem p_md_opensT {k : Int} {l : List Int} {v : Mem} {T : Int → Int} {N p : Int} {Q : Mem → Prop} (hk : k = 12 ∨ k = 13 ∨ k = 14 ∨ k = 15) (hX : RX v T N p) (hf : v 34 34 0 = 0) (hR : RT v l) (hd : 0 ≤ dep l ∧ dep l ≤ 10) (hl : (l.length : Int) ≤ 100)
    (h : ∀ m, FrJ 34 (fun j => j = 34 ∨ j = 38 ∨ j = 40 ∨ j = 51) v m → ((k = 12 ∨ k = 15) → dep l = 10 → m 34 34 0 = 1 + 8 * p + 2) → ((k = 13 ∨ k = 14) ∨ dep l < 10 → m 34 34 0 = 0 ∧ RT m (k :: l)) → Q m) : W_md_opens (k - 3) v Q := by
  obtain ⟨r1, r2, r3⟩ := hR
  have push : ∀ m, FrJ 34 (fun j => j = 34 ∨ j = 38) v m → ((k = 12 ∨ k = 15) → dep l = 10 → m 34 34 0 = 1 + 8 * p + 2) → ((k = 13 ∨ k = 14) ∨ dep l < 10 → m 34 34 0 = 0 ∧ m 34 38 0 = dep (k :: l)) → T_md_opens_40 Q (k - 3) m := fun m F h1 h2 => by
    unfold T_md_opens_40
    have m40 : m 34 40 0 = (l.length : Int) := by rw [F.2 40 (by omega)]; exact r1
    rw [m40, wr_id (x := (l.length : Int)) (by omega) (by omega)]
    refine ⟨by omega, fun s1 x1 s2 x2 => ?_⟩
    obtain ⟨a1, a2, a3⟩ := updM_f x1
    obtain ⟨b1, b2, b3⟩ := updM_f x2
    refine h s2 ⟨fun o q => by rw [b1 o q, a1 o q, F.1 o q], fun j q => by rw [b2 j (by omega), a2 j (by omega), F.2 j (by omega)]⟩ (fun w w2 => by rw [b2 34 (by omega), a2 34 (by omega)]; exact h1 w w2) (fun w => ⟨by rw [b2 34 (by omega), a2 34 (by omega)]; exact (h2 w).1, ?_, ?_, ?_⟩)
    · rw [b3, uA_s, a2 40 (by omega), m40, List.length_cons]; omega
    · rw [b2 38 (by omega), a2 38 (by omega)]; exact (h2 w).2
    · show s2 34 51 ((rl l).length : Int) = k - 3 ∧ stk (s2 34 51) (rl l)
      rw [rl_len, b2 51 (by omega), a3]
      refine ⟨uA_s _ _ _, stk_up r3 (fun i i0 i1 => ?_)⟩
      rw [rl_len] at i1
      rw [uA_n _ (by omega), F.2 51 (by omega)]
  have deep : (k = 12 ∨ k = 15) → T_md_opens_12 Q (k - 3) v := fun hkk => by
    unfold T_md_opens_12 T_md_opens_30
    have dk : dep (k :: l) = 1 + dep l := by
      show (if k = 12 ∨ k = 15 then (1 : Int) else 0) + dep l = _
      rw [if_pos hkk]
    rw [r2, wr_id (x := dep l) (by omega) (by omega), hX.2.1]
    refine ⟨fun z s1 x1 => ?_, fun z => p_md_fails hf (by omega) (fun m F e s1 x1 => ?_)⟩
    · obtain ⟨a1, a2, a3⟩ := updM_f x1
      exact push s1 ⟨a1, fun j q => a2 j (by omega)⟩ (fun _ w => absurd w z) (fun _ => ⟨by rw [a2 34 (by omega)]; exact hf, by rw [a3, uA_s, dk]; omega⟩)
    · obtain ⟨a1, a2, a3⟩ := updM_f x1
      rw [flt_0] at e
      exact push s1 ⟨fun o q => by rw [a1 o q, F.1 o q], fun j q => by rw [a2 j (by omega), F.2 j (by omega)]⟩ (fun _ _ => by rw [a2 34 (by omega)]; exact e) (fun w => by omega)
  refine w_md_opens (b_md_opens_0 ?_)
  unfold T_md_opens_0
  rw [wr_id (x := k - 3) (by omega) (by omega)]
  refine ⟨fun z => deep (by omega), fun z => ⟨fun z2 => push v FrJ.rf (fun w => by omega) (fun _ => ⟨hf, ?_⟩), fun z2 => deep (by omega)⟩⟩
  rw [r2]
  show dep l = (if k = 12 ∨ k = 15 then 1 else 0) + dep l
  rw [if_neg (by omega)]; omega
