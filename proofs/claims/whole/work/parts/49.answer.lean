theorem kap_k {k : Int} (hk : 0 ≤ k ∧ k ≤ 14) : (wr (kap k) = 0 ↔ k = 0) ∧ (wr (kap k) = 1 ↔ k = 1) ∧ (wr (kap k) = 9 ↔ k = 12) := by
  rcases (show k = 0 ∨ k = 1 ∨ k = 2 ∨ k = 3 ∨ k = 4 ∨ k = 5 ∨ k = 6 ∨ k = 7 ∨ k = 8 ∨ k = 9 ∨ k = 10 ∨ k = 11 ∨ k = 12 ∨ k = 13 ∨ k = 14 by omega) with q | q | q | q | q | q | q | q | q | q | q | q | q | q | q <;> subst q <;> decide
theorem p_md_answer {f : Int → Int} {r a b : Int} {kf : Bool} {s : Mem} {Q : Int → Mem → Prop} (hr : 0 ≤ r ∧ r < 6) (hS : STP f a b) (hm : ∀ k, a ≤ k → k < b → s 34 44 (300 * r + k) = kap (f k % 16) ∧ s 34 45 (300 * r + k) = f k / 16) (hc : chk (kindsL f a b) [] = some [kf])
    (h : ∀ t x, FrJ 34 (fun j => j = 53) s t → evl f (s 34 52) (b - a).toNat a [] = [x] → (kf = true → x = 0 ∨ x = 1) → Q x t) : W_md_answer r a b s Q := by
  obtain ⟨⟨a0, ab, b3⟩, hS⟩ := hS
  refine w_md_answer (b_md_answer_0 ?_)
  have loop : ∀ i : Int, ∀ (ks : List Bool) (l : List Int) (t : Mem), a ≤ i → i ≤ b → FrJ 34 (fun j => j = 53) s t → TS ks l → SM (t 34 53) l → l.length ≤ 40 → chk (kindsL f i b) ks = some [kf] → evl f (s 34 52) (b - a).toNat a [] = evl f (s 34 52) (b - i).toNat i l → K_md_answer_6 Q r b (l.length : Int) i t := by
    refine fun i => ind_up (P := fun i => ∀ (ks : List Bool) (l : List Int) (t : Mem), a ≤ i → i ≤ b → FrJ 34 (fun j => j = 53) s t → TS ks l → SM (t 34 53) l → l.length ≤ 40 → chk (kindsL f i b) ks = some [kf] → evl f (s 34 52) (b - a).toNat a [] = evl f (s 34 52) (b - i).toNat i l → K_md_answer_6 Q r b (l.length : Int) i t) b (fun i ih ks l t h0 h1 hF hT hM hL hC hE => ?_) i
    refine b_md_answer_6 ?_
    unfold T_md_answer_6 T_md_answer_153
    rw [hF.2 44 (by omega), hF.2 45 (by omega), wr_id (x := b) (by omega) (by omega), wr_id (x := i) (by omega) (by omega), wr_id (x := 300 * r + i) (by omega) (by omega)]
    refine ⟨fun c => ?_, fun c => ⟨by omega, ?_⟩⟩
    · have ei : i = b := by omega
      subst ei
      rw [kinds_0 (by omega)] at hC
      cases hC
      match l, hT, hM, hE with
      | [x], hT, hM, hE =>
        have e7 : t 34 53 0 = x := hM.1
        rw [e7]
        rw [show (i - i).toNat = 0 by omega] at hE
        exact h t x hF hE hT.1
      | _ :: _ :: _, hT, _, _ => exact absurd hT.2 id
      | [], hT, _, _ => exact absurd hT id
    · obtain ⟨k0, v0, w0⟩ := hS i h0 (by omega)
      obtain ⟨z1, z2⟩ := hm i h0 (by omega)
      rw [kinds_1 (by omega)] at hC
      have hC : (chk1 (f i % 16) ks).bind (chk (kindsL f (i + 1) b)) = some [kf] := hC
      obtain ⟨ks', c1, c2⟩ := Option.bind_eq_some_iff.mp hC
      obtain ⟨hT', hK⟩ := chk1_TS (wd := s 34 52) (v := f i / 16) k0 c1 hT
      obtain ⟨g1, g2, g3, g4⟩ := okK_st (wd := s 34 52) (v := f i / 16) hK k0
      rw [show (b - i).toNat = (b - (i + 1)).toNat + 1 by omega] at hE
      have hE : evl f (s 34 52) (b - a).toNat a [] = evl f (s 34 52) (b - (i + 1)).toNat (i + 1) (st1 (s 34 52) (f i % 16) (f i / 16) l) := hE
      have ih := fun l' t' => ih (show i < b by omega) ks' l' t' (by omega) (by omega)
      obtain ⟨q0, q1, q9⟩ := kap_k k0
      have hl40 := hK.1
      rw [z1, z2]
      rintro x2 rfl
      refine ⟨by omega, ?_⟩
      rintro x3 rfl
      have push : ∀ v, st1 (s 34 52) (f i % 16) (f i / 16) l = v :: l → l.length < 40 → T_md_answer_77 Q r b (l.length : Int) i (l.length : Int) v t := fun v ev hl => by
        unfold T_md_answer_77 T_md_answer_147
        rw [wr_id (x := (l.length : Int)) (by omega) (by omega)]
        refine ⟨by omega, fun s1 x1 => ?_⟩
        obtain ⟨y1, y2, y3⟩ := updM_f x1
        rw [ev] at hT' hE
        have := ih (v :: l) s1 (hF.tr ⟨y1, fun j q => y2 j q⟩) hT' ⟨by rw [y3, uA_s], by rw [y3]; exact SM_up hM (by omega)⟩ (by simp only [List.length_cons]; omega) c2 hE
        exact this
      have p53 : (f i % 16 = 0 ∨ f i % 16 = 1) → T_md_answer_53 Q r b (l.length : Int) i (kap (f i % 16)) (f i / 16) t := fun hk => by
        have hl := hl40 hk
        unfold T_md_answer_53 T_md_answer_70
        rw [q0, wr_id (x := f i / 16) (by omega) (by omega), hF.2 52 (by omega)]
        refine ⟨fun q => ⟨by have := w0 (by omega); omega, push _ (g2 (by omega)) hl⟩, fun q => push _ ?_ hl⟩
        rw [g1 (Decidable.byContradiction q), wr_id (x := f i / 16) (by omega) (by omega)]
      rw [q0, q1]
      refine ⟨fun q => p53 (Or.inl q), fun q => ⟨fun q2 => ?_, fun q2 => p53 (by omega)⟩⟩
      unfold T_md_answer_84
      rw [q9]
      refine ⟨fun q3 => ?_, fun q3 => ?_⟩
      · obtain ⟨y, x, l2, el, es⟩ := g4 (by omega)
        subst el
        obtain ⟨m1, m2, m3⟩ := hM
        have L1 : ((x :: l2).length : Int) = (l2.length : Int) + 1 := by simp
        have L2 : ((y :: x :: l2).length : Int) = (l2.length : Int) + 2 := by simp; omega
        rw [es] at hT' hE
        have hL2 : (l2.length : Int) + 2 ≤ 40 := by
          have : ((y :: x :: l2).length : Int) ≤ 40 := by omega
          omega
        unfold T_md_answer_114 T_md_answer_147
        rw [L2, show (l2.length : Int) + 2 + -1 - 1 = (l2.length : Int) by omega, show (l2.length : Int) + 2 + -1 = (l2.length : Int) + 1 by omega, wr_id (x := (l2.length : Int)) (by omega) (by omega), wr_id (x := (l2.length : Int) + 1) (by omega) (by omega)]
        rw [L1] at m1
        rw [m1, m2]
        refine ⟨by omega, by omega, p_md_both (by omega) ⟨by omega, fun s4 x4 => ?_⟩⟩
        obtain ⟨y1, y2, y3⟩ := updM_f x4
        have := ih (jn (f i % 16) x y :: l2) s4 (hF.tr ⟨y1, fun j q => y2 j q⟩) hT' ⟨by rw [y3, uA_s], by rw [y3]; exact SM_up m3 (by omega)⟩ (by simp only [List.length_cons]; omega) c2 hE
        exact this
      · obtain ⟨x, l2, el, es⟩ := g3 (by omega)
        subst el
        obtain ⟨m1, m2⟩ := hM
        have L1 : ((x :: l2).length : Int) = (l2.length : Int) + 1 := by simp
        rw [es] at hT' hE
        unfold T_md_answer_147
        have hL2 : (l2.length : Int) + 1 ≤ 40 := by
          have : ((x :: l2).length : Int) ≤ 40 := by omega
          omega
        rw [L1, show (l2.length : Int) + 1 - 1 = (l2.length : Int) by omega, wr_id (x := (l2.length : Int)) (by omega) (by omega), m1]
        refine ⟨by omega, by omega, fun s3 x3 => ?_⟩
        obtain ⟨y1, y2, y3⟩ := updM_f x3
        have := ih ((1 - x) :: l2) s3 (hF.tr ⟨y1, fun j q => y2 j q⟩) hT' ⟨by rw [y3, uA_s], by rw [y3]; exact SM_up m2 (by omega)⟩ (by simp only [List.length_cons]; omega) c2 hE
        exact this
  have := loop a [] [] s (by omega) ab FrJ.rf trivial trivial (by decide) hc rfl
  exact this
