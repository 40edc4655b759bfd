/-! ===== a RULE's steps run, on both sides ===== -/
/-- steps between a and b of a row -/
def STP (f : Int → Int) (a b : Int) : Prop := (0 ≤ a ∧ a ≤ b ∧ b ≤ 299) ∧ ∀ k, a ≤ k → k < b → (0 ≤ f k % 16 ∧ f k % 16 ≤ 14) ∧ (0 ≤ f k / 16 ∧ f k / 16 ≤ 99999) ∧ (f k % 16 = 1 → f k / 16 < 9)
theorem okK_st {wd : Int → Int} {k v : Int} {t : List Int} (h : okK k t) (hk : 0 ≤ k ∧ k ≤ 14) : (k = 0 → st1 wd k v t = wr v :: t) ∧ (k = 1 → st1 wd k v t = wd v :: t) ∧ (k = 12 → ∃ x r, t = x :: r ∧ st1 wd k v t = (1 - x) :: r) ∧ (¬ (k = 0 ∨ k = 1 ∨ k = 12) → ∃ y x r, t = y :: x :: r ∧ st1 wd k v t = jn k x y :: r) := by
  refine ⟨fun q => if_pos q, fun q => ?_, fun q => ?_, fun q => ?_⟩
  · unfold st1
    rw [if_neg (by omega), if_pos q]
  · obtain ⟨x, r, e⟩ := h.2.1 q
    refine ⟨x, r, e, ?_⟩
    subst e
    unfold st1
    rw [if_neg (by omega), if_neg (by omega), if_pos q]
  · obtain ⟨y, x, r, e⟩ := h.2.2 q
    refine ⟨y, x, r, e, ?_⟩
    subst e
    unfold st1
    rw [if_neg (by omega), if_neg (by omega), if_neg (by omega)]
theorem p_ru_run {o w : Nat} {a b : Int} {kf : Bool} {s : Mem} {Q : Int → Mem → Prop} (ho : cls o = 2) (hw : arrK 4 9 w 13) (hne : ¬ w = o) (hS : STP (s o 0) a b) (hb : b ≤ s o 1 0 ∧ s o 1 0 ≤ 299) (hc : chk (kindsL (s o 0) a b) [] = some [kf])
    (h : ∀ t x, FrJ o (fun j => j = 7) s t → evl (s o 0) (s w 13) (b - a).toNat a [] = [x] → (kf = true → x = 0 ∨ x = 1) → Q x t) : W_ru_run o a b w 13 9 s Q := by
  obtain ⟨⟨a0, ab, b3⟩, hS⟩ := hS
  refine w_ru_run (b_ru_run_0 ho hw ?_)
  have loop : ∀ i : Int, ∀ (ks : List Bool) (l : List Int) (t : Mem), a ≤ i → i ≤ b → FrJ o (fun j => j = 7) s t → TS ks l → SM (t o 7) l → l.length ≤ 40 → chk (kindsL (s o 0) i b) ks = some [kf] → evl (s o 0) (s w 13) (b - a).toNat a [] = evl (s o 0) (s w 13) (b - i).toNat i l → K_ru_run_6 Q o b w 13 9 (l.length : Int) i t := by
    refine fun i => ind_up (P := fun i => ∀ (ks : List Bool) (l : List Int) (t : Mem), a ≤ i → i ≤ b → FrJ o (fun j => j = 7) s t → TS ks l → SM (t o 7) l → l.length ≤ 40 → chk (kindsL (s o 0) i b) ks = some [kf] → evl (s o 0) (s w 13) (b - a).toNat a [] = evl (s o 0) (s w 13) (b - i).toNat i l → K_ru_run_6 Q o b w 13 9 (l.length : Int) i t) b (fun i ih ks l t h0 h1 hF hT hM hL hC hE => ?_) i
    refine b_ru_run_6 ho hw ?_
    unfold T_ru_run_6
    rw [hF.2 1 (by omega), hF.2 0 (by omega), wr_id (x := b) (by omega) (by omega), wr_id (x := i) (by omega) (by omega), wr_id (x := s o 1 0) (by omega) (by omega)]
    refine ⟨fun c => ?_, fun c => br_f (by omega) ?_⟩
    · have ei : i = b := by omega
      subst ei
      rw [kinds_0 (by omega)] at hC
      cases hC
      match l, hT, hM, hE with
      | [x], hT, hM, hE =>
        unfold T_ru_run_182
        refine br_f (show ¬ wr ((1 : Nat) : Int) ≤ 0 by decide) ?_
        have e7 : t o 7 0 = x := hM.1
        rw [e7]
        rw [show (i - i).toNat = 0 by omega] at hE
        exact h t x hF hE hT.1
      | _ :: _ :: _, hT, _, _ => exact absurd hT.2 id
      | [], hT, _, _ => exact absurd hT id
    · obtain ⟨k0, v0, w0⟩ := hS i h0 (by omega)
      rw [kinds_1 (by omega)] at hC
      have hC : (chk1 (s o 0 i % 16) ks).bind (chk (kindsL (s o 0) (i + 1) b)) = some [kf] := hC
      obtain ⟨ks', c1, c2⟩ := Option.bind_eq_some_iff.mp hC
      obtain ⟨hT', hK⟩ := chk1_TS (wd := s w 13) (v := s o 0 i / 16) k0 c1 hT
      obtain ⟨g1, g2, g3, g4⟩ := okK_st (wd := s w 13) (v := s o 0 i / 16) hK k0
      rw [show (b - i).toNat = (b - (i + 1)).toNat + 1 by omega] at hE
      have hE : evl (s o 0) (s w 13) (b - a).toNat a [] = evl (s o 0) (s w 13) (b - (i + 1)).toNat (i + 1) (st1 (s w 13) (s o 0 i % 16) (s o 0 i / 16) l) := hE
      have ih := fun l' t' => ih (show i < b by omega) ks' l' t' (by omega) (by omega)
      have em := irm_p (x := s o 0 i) (y := 16) (by omega) (by omega)
      have ed := idv_p (x := s o 0 i) (y := 16) (by omega) (by omega)
      rw [em, ed, wr_id (x := s o 0 i % 16) (by omega) (by omega)]
      have hl40 := hK.1
      have ew : t w = s w := hF.1 w hne
      have push : ∀ v, st1 (s w 13) (s o 0 i % 16) (s o 0 i / 16) l = v :: l → l.length < 40 → T_ru_run_94 Q o b w 13 9 (l.length : Int) i o (l.length : Int) v t := fun v ev hl => by
        unfold T_ru_run_94 T_ru_run_176
        rw [wr_id (x := (l.length : Int)) (by omega) (by omega)]
        refine ⟨by omega, fun s1 x1 => ?_⟩
        obtain ⟨y1, y2, y3⟩ := updM_f x1
        rw [ev] at hT' hE
        have := ih (v :: l) s1 (hF.tr ⟨y1, fun j q => y2 j q⟩) hT' ⟨by rw [y3, uA_s], by rw [y3]; exact SM_up hM (by omega)⟩ (by simp only [List.length_cons]; omega) c2 hE
        exact this
      have p56 : (s o 0 i % 16 = 0 ∨ s o 0 i % 16 = 1) → T_ru_run_56 Q o b w 13 9 (l.length : Int) i (s o 0 i % 16) (s o 0 i / 16) t := fun hk => by
        have hl := hl40 hk
        unfold T_ru_run_56 T_ru_run_84 T_ru_run_90
        rw [wr_id (x := (l.length : Int)) (by omega) (by omega), wr_id (x := s o 0 i % 16) (by omega) (by omega), wr_id (x := s o 0 i / 16) (by omega) (by omega), wr_id (x := ((9 : Nat) : Int)) (by omega) (by omega), ew]
        refine br_f (by omega) ⟨fun q => push _ ?_ hl, fun q => ⟨fun q2 => ⟨by have := w0 (by omega); omega, push _ ?_ hl⟩, fun q2 => absurd (w0 (by omega)) (by omega)⟩⟩
        · rw [g1 q, wr_id (x := s o 0 i / 16) (by omega) (by omega)]
        · exact g2 (by omega)
      refine ⟨by omega, by omega, fun q => p56 (Or.inl q), fun q => ⟨fun q2 => ?_, fun q2 => p56 (by omega)⟩⟩
      unfold T_ru_run_101
      rw [wr_id (x := s o 0 i % 16) (by omega) (by omega)]
      refine ⟨fun q3 => ?_, fun q3 => ?_⟩
      · obtain ⟨y, x, r, el, es⟩ := g4 (by omega)
        subst el
        obtain ⟨m1, m2, m3⟩ := hM
        have L1 : ((x :: r).length : Int) = (r.length : Int) + 1 := by simp
        have L2 : ((y :: x :: r).length : Int) = (r.length : Int) + 2 := by simp; omega
        rw [es] at hT' hE
        have hL2 : (r.length : Int) + 2 ≤ 40 := by
          have : ((y :: x :: r).length : Int) ≤ 40 := by omega
          omega
        unfold T_ru_run_137 T_ru_run_176
        rw [L2, wr_id (x := (r.length : Int) + 2) (by omega) (by omega), show (r.length : Int) + 2 + -1 - 1 = (r.length : Int) by omega, show (r.length : Int) + 2 + -1 = (r.length : Int) + 1 by omega, wr_id (x := (r.length : Int)) (by omega) (by omega), wr_id (x := (r.length : Int) + 1) (by omega) (by omega)]
        rw [L1] at m1
        rw [m1, m2]
        refine br_f (by omega) ⟨by omega, by omega, p_ru_join (by omega) ⟨by omega, fun s4 x4 => ?_⟩⟩
        obtain ⟨y1, y2, y3⟩ := updM_f x4
        have := ih (jn (s o 0 i % 16) x y :: r) s4 (hF.tr ⟨y1, fun j q => y2 j q⟩) hT' ⟨by rw [y3, uA_s], by rw [y3]; exact SM_up m3 (by omega)⟩ (by simp only [List.length_cons]; omega) c2 hE
        exact this
      · obtain ⟨x, r, el, es⟩ := g3 (by omega)
        subst el
        obtain ⟨m1, m2⟩ := hM
        have L1 : ((x :: r).length : Int) = (r.length : Int) + 1 := by simp
        rw [es] at hT' hE
        unfold T_ru_run_176
        have hL2 : (r.length : Int) + 1 ≤ 40 := by
          have : ((x :: r).length : Int) ≤ 40 := by omega
          omega
        rw [L1, wr_id (x := (r.length : Int) + 1) (by omega) (by omega), show (r.length : Int) + 1 - 1 = (r.length : Int) by omega, wr_id (x := (r.length : Int)) (by omega) (by omega), m1]
        refine br_f (by omega) ⟨by omega, by omega, fun s3 x3 => ?_⟩
        obtain ⟨y1, y2, y3⟩ := updM_f x3
        have := ih ((1 - x) :: r) s3 (hF.tr ⟨y1, fun j q => y2 j q⟩) hT' ⟨by rw [y3, uA_s], by rw [y3]; exact SM_up m2 (by omega)⟩ (by simp only [List.length_cons]; omega) c2 hE
        exact this
  have := loop a [] [] s (by omega) ab FrJ.rf trivial trivial (by decide) hc rfl
  exact this
