/-! ===== what an END is WORTH ===== -/
def FF (fl fw fv : Int → Int) (nf : Int) : Prop := (0 ≤ nf ∧ nf ≤ 8) ∧ ∀ f, 0 ≤ f → f < nf → (1 ≤ fl f ∧ fl f ≤ 80) ∧ (1 ≤ fw f ∧ fw f ≤ 99) ∧ (0 ≤ fv f ∧ fv f ≤ 999)
def wIn (fl fw fv : Int → Int) (wd : Int) (T : Int → Int) (n : Int) : Nat → Int
  | 0 => 0
  | f + 1 => if fw (f : Int) ≤ wd ∧ fl (f : Int) ≤ n then max (wIn fl fw fv wd T n f) (fv (f : Int) + T (n - fl (f : Int))) else wIn fl fw fv wd T n f
theorem wIn_1 {fl fw fv : Int → Int} {wd : Int} {T : Int → Int} {n f : Int} (hf : 0 ≤ f) : wIn fl fw fv wd T n (f + 1).toNat = if fw f ≤ wd ∧ fl f ≤ n then max (wIn fl fw fv wd T n f.toNat) (fv f + T (n - fl f)) else wIn fl fw fv wd T n f.toNat := by
  rw [show (f + 1).toNat = f.toNat + 1 by omega]
  have e : ((f.toNat : Nat) : Int) = f := by omega
  show (if fw (f.toNat : Int) ≤ wd ∧ fl (f.toNat : Int) ≤ n then max (wIn fl fw fv wd T n f.toNat) (fv (f.toNat : Int) + T (n - fl (f.toNat : Int))) else wIn fl fw fv wd T n f.toNat) = _
  rw [e]
theorem wIn_congr {fl fw fv fl' fw' fv' : Int → Int} {wd n : Int} {T T' : Int → Int} (hT : ∀ j, 0 ≤ j → j < n → T j = T' j) : ∀ {f : Nat}, (∀ k : Nat, k < f → 1 ≤ fl (k : Int) ∧ fl (k : Int) = fl' (k : Int) ∧ fw (k : Int) = fw' (k : Int) ∧ fv (k : Int) = fv' (k : Int)) → wIn fl fw fv wd T n f = wIn fl' fw' fv' wd T' n f
  | 0, _ => rfl
  | f + 1, h => by
    have ih := wIn_congr (wd := wd) (fw := fw) (fv := fv) (fw' := fw') (fv' := fv') hT (f := f) (fun k hk => h k (by omega))
    obtain ⟨h1, h2, h3, h4⟩ := h f (by omega)
    show (if fw (f : Int) ≤ wd ∧ fl (f : Int) ≤ n then max (wIn fl fw fv wd T n f) (fv (f : Int) + T (n - fl (f : Int))) else wIn fl fw fv wd T n f) = (if fw' (f : Int) ≤ wd ∧ fl' (f : Int) ≤ n then max (wIn fl' fw' fv' wd T' n f) (fv' (f : Int) + T' (n - fl' (f : Int))) else wIn fl' fw' fv' wd T' n f)
    rw [← h2, ← h3, ← h4, ih]
    by_cases c : fw (f : Int) ≤ wd ∧ fl (f : Int) ≤ n
    · rw [if_pos c, if_pos c, hT _ (by omega) (by omega)]
    · rw [if_neg c, if_neg c]
theorem wIn_bd {fl fw fv : Int → Int} {wd n : Int} {T : Int → Int} (h0 : 0 ≤ n) (hT : ∀ j, 0 ≤ j → j < n → 0 ≤ T j ∧ T j ≤ 999 * j) : ∀ {f : Nat}, (∀ k : Nat, k < f → 1 ≤ fl (k : Int) ∧ 0 ≤ fv (k : Int) ∧ fv (k : Int) ≤ 999) → 0 ≤ wIn fl fw fv wd T n f ∧ wIn fl fw fv wd T n f ≤ 999 * n
  | 0, _ => by show 0 ≤ (0 : Int) ∧ (0 : Int) ≤ _; omega
  | f + 1, h => by
    have ih := wIn_bd (fl := fl) (fw := fw) (fv := fv) (wd := wd) h0 hT (f := f) (fun k hk => h k (by omega))
    obtain ⟨h1, h2, h3⟩ := h f (by omega)
    show 0 ≤ (if fw (f : Int) ≤ wd ∧ fl (f : Int) ≤ n then max (wIn fl fw fv wd T n f) (fv (f : Int) + T (n - fl (f : Int))) else wIn fl fw fv wd T n f) ∧ (if fw (f : Int) ≤ wd ∧ fl (f : Int) ≤ n then max (wIn fl fw fv wd T n f) (fv (f : Int) + T (n - fl (f : Int))) else wIn fl fw fv wd T n f) ≤ _
    by_cases c : fw (f : Int) ≤ wd ∧ fl (f : Int) ≤ n
    · rw [if_pos c]
      have := hT (n - fl (f : Int)) (by omega) (by omega)
      omega
    · rw [if_neg c]
      exact ih
/-- a table of WORTHS up to n -/
def wTb (fl fw fv : Int → Int) (nf wd : Int) (T : Int → Int) (m : Int) : Prop := ∀ n, 0 ≤ n → n < m → T n = wIn fl fw fv wd T n nf.toNat ∧ 0 ≤ T n ∧ T n ≤ 999 * n
theorem wTb_c {fl fw fv : Int → Int} {nf wd m : Int} {T T' : Int → Int} (hF : FF fl fw fv nf) (h : wTb fl fw fv nf wd T m) (e : ∀ n, n < m → T' n = T n) : wTb fl fw fv nf wd T' m := by
  intro n n0 n1
  obtain ⟨h1, h2, h3⟩ := h n n0 n1
  rw [e n n1]
  refine ⟨?_, h2, h3⟩
  rw [h1]
  exact wIn_congr (fun j j0 j1 => (e j (by omega)).symm) (fun k hk => ⟨(hF.2 k (by omega) (by omega)).1.1, rfl, rfl, rfl⟩)
theorem wTb_s {fl fw fv : Int → Int} {nf wd m : Int} {T T' : Int → Int} (hF : FF fl fw fv nf) (hm : 0 ≤ m) (h : wTb fl fw fv nf wd T m) (e : ∀ n, n < m → T' n = T n) (em : T' m = wIn fl fw fv wd T m nf.toNat) : wTb fl fw fv nf wd T' (m + 1) := by
  intro n n0 n1
  by_cases q : n = m
  · subst q
    have b := wIn_bd (fl := fl) (fw := fw) (fv := fv) (wd := wd) (T := T) (f := nf.toNat) n0 (fun j j0 j1 => (h j j0 j1).2) (fun k hk => ⟨(hF.2 k (by omega) (by omega)).1.1, (hF.2 k (by omega) (by omega)).2.2⟩)
    rw [em]
    refine ⟨wIn_congr (fun j j0 j1 => (e j j1).symm) (fun k hk => ⟨(hF.2 k (by omega) (by omega)).1.1, rfl, rfl, rfl⟩), b⟩
  · exact wTb_c hF h e n n0 (by omega)
/-- two tables of the same FORMS -/
theorem wTb_u {fl fw fv fl' fw' fv' : Int → Int} {nf wd m : Int} {T T' : Int → Int} (hF : FF fl fw fv nf) (hE : ∀ f, 0 ≤ f → f < nf → fl f = fl' f ∧ fw f = fw' f ∧ fv f = fv' f) (h : wTb fl fw fv nf wd T m) (h' : wTb fl' fw' fv' nf wd T' m) : ∀ n, 0 ≤ n → n < m → T n = T' n := by
  have key : ∀ (k : Nat) (n : Int), n.toNat < k → 0 ≤ n → n < m → T n = T' n := by
    intro k
    induction k with
    | zero => intro n hn; omega
    | succ k ih =>
      intro n hn n0 n1
      rw [(h n n0 n1).1, (h' n n0 n1).1]
      exact wIn_congr (fun j j0 j1 => ih j (by omega) j0 (by omega)) (fun k hk => ⟨(hF.2 k (by omega) (by omega)).1.1, hE k (by omega) (by omega)⟩)
  exact fun n n0 n1 => key (n.toNat + 1) n (by omega) n0 n1
theorem p_fm_fits {o : Nat} {f n wd : Int} {s : Mem} {Q : Int → Mem → Prop} (ho : cls o = 5) (hf : 0 ≤ f ∧ f < 8) (hl : 0 ≤ s o 11 f ∧ s o 11 f ≤ 80) (hw : 0 ≤ s o 12 f ∧ s o 12 f ≤ 99) (hn : 0 ≤ n ∧ n ≤ 80) (wwd : wr wd = wd) (h : Q (b2 (s o 12 f ≤ wd ∧ s o 11 f ≤ n)) s) : W_fm_fits o f n wd s Q := by
  refine w_fm_fits (b_fm_fits_0 ho ?_)
  unfold T_fm_fits_0 T_fm_fits_24 T_fm_fits_25
  rw [wwd, wr_id (x := f) (by omega) (by omega), wr_id (x := n) (by omega) (by omega), wr_id (x := s o 11 f) (by omega) (by omega), wr_id (x := s o 12 f) (by omega) (by omega)]
  refine ⟨hf, fun c => ⟨Or.inl rfl, ?_⟩, fun c => ⟨hf, fun c2 => ⟨Or.inl rfl, ?_⟩, fun c2 => ⟨Or.inr rfl, ?_⟩⟩⟩
  · rw [b2_f (by omega)] at h
    exact h
  · rw [b2_f (by omega)] at h
    exact h
  · rw [b2_t (by omega)] at h
    exact h
theorem ne24 {o : Nat} (ho : cls o = 5) : ¬ o = 24 := fun q => absurd (q ▸ ho) (by decide)
theorem p_fm_lay {o : Nat} {wd : Int} {s : Mem} {Q : Mem → Prop} (ho : cls o = 5) (hF : FF (s o 11) (s o 12) (s o 13) (s o 14 0)) (wwd : wr wd = wd) (h : ∀ t, FrJ 24 (fun j => j = 0) s t → wTb (s o 11) (s o 12) (s o 13) (s o 14 0) wd (t 24 0) 81 → Q t) : W_fm_lay o wd s Q := by
  obtain ⟨f1, f2⟩ := id hF
  refine w_fm_lay (b_fm_lay_0 ho ?_)
  intro s1 x1
  obtain ⟨a1, a2, a3⟩ := updM_f x1
  have wnf : wr (s o 14 0) = s o 14 0 := wr_id (by omega) (by omega)
  have outer : ∀ n : Int, ∀ t, 1 ≤ n → n ≤ 81 → FrJ 24 (fun j => j = 0) s t → wTb (s o 11) (s o 12) (s o 13) (s o 14 0) wd (t 24 0) n → K_fm_lay_9 Q o wd n t := by
    refine fun n => ind_up (P := fun n => ∀ t, 1 ≤ n → n ≤ 81 → FrJ 24 (fun j => j = 0) s t → wTb (s o 11) (s o 12) (s o 13) (s o 14 0) wd (t 24 0) n → K_fm_lay_9 Q o wd n t) 81 (fun n ih t h0 h1 hFt hT => ?_) n
    refine b_fm_lay_9 ho ?_
    unfold T_fm_lay_9
    rw [wr_id (x := n) (by omega) (by omega)]
    refine ⟨fun c => h t hFt (by rw [show n = 81 by omega] at hT; exact hT), fun c => ?_⟩
    have et : t o = s o := hFt.1 o (ne24 ho)
    have inner : ∀ f : Int, 0 ≤ f → f ≤ s o 14 0 → K_fm_lay_21 Q o wd n (wIn (s o 11) (s o 12) (s o 13) wd (t 24 0) n f.toNat) f t := by
      refine fun f => ind_up (P := fun f => 0 ≤ f → f ≤ s o 14 0 → K_fm_lay_21 Q o wd n (wIn (s o 11) (s o 12) (s o 13) wd (t 24 0) n f.toNat) f t) (s o 14 0) (fun f ihf g0 g1 => ?_) f
      refine b_fm_lay_21 ho ?_
      unfold T_fm_lay_21 T_fm_lay_62 T_fm_lay_56
      rw [et, wnf, wr_id (x := f) (by omega) (by omega), wr_id (x := n) (by omega) (by omega)]
      refine ⟨fun c2 => ⟨by omega, fun s2 x2 => ?_⟩, fun c2 => ?_⟩
      · obtain ⟨b1, b2, b3⟩ := updM_f x2
        rw [show f = s o 14 0 by omega] at b3
        refine ih (by omega) s2 (by omega) (by omega) (hFt.tr ⟨b1, fun j q => b2 j q⟩) (wTb_s hF (by omega) hT (fun k hk => ?_) ?_)
        · rw [b3, uA_n _ (by omega)]
        · rw [b3, uA_s]
      · have ihf := ihf (by omega) (by omega) (by omega)
        rw [wIn_1 g0] at ihf
        obtain ⟨v1, v2, v3⟩ := f2 f g0 (by omega)
        refine p_fm_fits ho (by omega) (by rw [et]; omega) (by rw [et]; omega) (by omega) wwd ?_
        rw [et]
        refine zt (fun c3 => ?_) (fun c3 => ?_)
        · rw [if_pos c3] at ihf
          refine w_fm_worthWith (b_fm_worthWith_0 ho ?_)
          unfold T_fm_worthWith_0
          rw [et, wr_id (x := f) (by omega) (by omega), wr_id (x := n - s o 11 f) (by omega) (by omega)]
          have b1 := wIn_bd (fl := s o 11) (fw := s o 12) (fv := s o 13) (wd := wd) (T := t 24 0) (f := f.toNat) (show 0 ≤ n by omega) (fun j j0 j1 => (hT j j0 j1).2) (fun k hk => ⟨(f2 k (by omega) (by omega)).1.1, (f2 k (by omega) (by omega)).2.2⟩)
          have b2 := hT (n - s o 11 f) (by omega) (by omega)
          refine ⟨by omega, by omega, by omega, ?_⟩
          show K_fm_lay_21 Q o wd n (max (wr (wIn (s o 11) (s o 12) (s o 13) wd (t 24 0) n f.toNat)) (wr (s o 13 f + t 24 0 (n - s o 11 f)))) (f + 1) t
          rw [wr_id (x := wIn (s o 11) (s o 12) (s o 13) wd (t 24 0) n f.toNat) (by omega) (by omega), wr_id (x := s o 13 f + t 24 0 (n - s o 11 f)) (by omega) (by omega)]
          exact ihf
        · rw [if_neg c3] at ihf
          exact ihf
    exact inner 0 (by omega) f1.1
  refine outer 1 s1 (by omega) (by omega) ⟨a1, fun j q => a2 j q⟩ (fun n n0 n1 => ?_)
  have n0 : n = 0 := by omega
  subst n0
  rw [a3, uA_s]
  refine ⟨?_, by omega, by omega⟩
  have z : ∀ f : Nat, f ≤ (s o 14 0).toNat → wIn (s o 11) (s o 12) (s o 13) wd (uA (s 24 0) 0 0) 0 f = 0 := by
    intro f
    induction f with
    | zero => exact fun _ => rfl
    | succ f ih =>
      intro hf
      show (if s o 12 (f : Int) ≤ wd ∧ s o 11 (f : Int) ≤ 0 then max (wIn (s o 11) (s o 12) (s o 13) wd (uA (s 24 0) 0 0) 0 f) (s o 13 (f : Int) + uA (s 24 0) 0 0 (0 - s o 11 (f : Int))) else wIn (s o 11) (s o 12) (s o 13) wd (uA (s 24 0) 0 0) 0 f) = (0 : Int)
      have := (f2 f (by omega) (by omega)).1
      rw [if_neg (by omega)]
      exact ih (by omega)
  exact (z _ (Nat.le_refl _)).symm
theorem p_md_fillsWorths {wd : Int} {s : Mem} {Q : Mem → Prop} (hF : FF (s 34 9) (s 34 10) (s 34 11) (s 34 2 5)) (wwd : wr wd = wd) (h : ∀ t, FrJ 34 (fun j => j = 63) s t → wTb (s 34 9) (s 34 10) (s 34 11) (s 34 2 5) wd (t 34 63) 81 → Q t) : W_md_fillsWorths wd s Q := by
  obtain ⟨f1, f2⟩ := id hF
  refine w_md_fillsWorths (b_md_fillsWorths_0 ?_)
  have wnf : wr (s 34 2 5) = s 34 2 5 := wr_id (by omega) (by omega)
  have outer : ∀ n : Int, ∀ t, 0 ≤ n → n ≤ 81 → FrJ 34 (fun j => j = 63) s t → wTb (s 34 9) (s 34 10) (s 34 11) (s 34 2 5) wd (t 34 63) n → K_md_fillsWorths_2 Q wd n t := by
    refine fun n => ind_up (P := fun n => ∀ t, 0 ≤ n → n ≤ 81 → FrJ 34 (fun j => j = 63) s t → wTb (s 34 9) (s 34 10) (s 34 11) (s 34 2 5) wd (t 34 63) n → K_md_fillsWorths_2 Q wd n t) 81 (fun n ih t h0 h1 hFt hT => ?_) n
    refine b_md_fillsWorths_2 ?_
    unfold T_md_fillsWorths_2
    rw [wr_id (x := n) (by omega) (by omega)]
    refine ⟨fun c => h t hFt (by rw [show n = 81 by omega] at hT; exact hT), fun c => ⟨by omega, fun s2 x2 => ?_⟩⟩
    obtain ⟨y1, y2, y3⟩ := updM_f x2
    have inner : ∀ f : Int, ∀ u, 0 ≤ f → f ≤ s 34 2 5 → FrJ 34 (fun j => j = 63) s u → (∀ k, k < n → u 34 63 k = t 34 63 k) → u 34 63 n = wIn (s 34 9) (s 34 10) (s 34 11) wd (t 34 63) n f.toNat → K_md_fillsWorths_17 Q wd n f u := by
      refine fun f => ind_up (P := fun f => ∀ u, 0 ≤ f → f ≤ s 34 2 5 → FrJ 34 (fun j => j = 63) s u → (∀ k, k < n → u 34 63 k = t 34 63 k) → u 34 63 n = wIn (s 34 9) (s 34 10) (s 34 11) wd (t 34 63) n f.toNat → K_md_fillsWorths_17 Q wd n f u) (s 34 2 5) (fun f ihf u g0 g1 hFu hk hn => ?_) f
      refine b_md_fillsWorths_17 ?_
      have b1 := wIn_bd (fl := s 34 9) (fw := s 34 10) (fv := s 34 11) (wd := wd) (T := t 34 63) (f := f.toNat) (show 0 ≤ n by omega) (fun j j0 j1 => (hT j j0 j1).2) (fun k hk => ⟨(f2 k (by omega) (by omega)).1.1, (f2 k (by omega) (by omega)).2.2⟩)
      unfold T_md_fillsWorths_17 T_md_fillsWorths_107 T_md_fillsWorths_70
      rw [hFu.2 2 (by omega), hFu.2 9 (by omega), hFu.2 10 (by omega), hFu.2 11 (by omega), wnf, wwd, wr_id (x := f) (by omega) (by omega), wr_id (x := n) (by omega) (by omega)]
      refine ⟨fun c2 => ?_, fun c2 => ?_⟩
      · rw [show f = s 34 2 5 by omega] at hn
        exact ih (by omega) u (by omega) (by omega) hFu (wTb_s hF (by omega) hT hk hn)
      · have ihf := ihf (by omega)
        rw [wIn_1 g0] at ihf
        obtain ⟨v1, v2, v3⟩ := f2 f g0 (by omega)
        have put : ∀ w : Int, 0 ≤ w → w ≤ 200000 → max (wIn (s 34 9) (s 34 10) (s 34 11) wd (t 34 63) n f.toNat) w = (if s 34 10 f ≤ wd ∧ s 34 9 f ≤ n then max (wIn (s 34 9) (s 34 10) (s 34 11) wd (t 34 63) n f.toNat) (s 34 11 f + t 34 63 (n - s 34 9 f)) else wIn (s 34 9) (s 34 10) (s 34 11) wd (t 34 63) n f.toNat) → T_md_fillsWorths_71 Q wd n f w u := fun w w0 w1 ew => by
          have fin : ∀ z : Int, z = max (wIn (s 34 9) (s 34 10) (s 34 11) wd (t 34 63) n f.toNat) w → T_md_fillsWorths_100 Q wd n f n z u := fun z ez => by
            unfold T_md_fillsWorths_100
            rw [wr_id (x := n) (by omega) (by omega)]
            refine ⟨by omega, fun s3 x3 => ?_⟩
            obtain ⟨d1, d2, d3⟩ := updM_f x3
            refine ihf s3 (by omega) (by omega) (hFu.tr ⟨d1, fun j q => d2 j q⟩) (fun k hk2 => ?_) ?_
            · rw [d3, uA_n _ (by omega)]
              exact hk k hk2
            · rw [d3, uA_s, ez, ew]
          unfold T_md_fillsWorths_71 T_md_fillsWorths_94
          rw [wr_id (x := n) (by omega) (by omega), hn, wr_id (x := w) (by omega) (by omega), wr_id (x := wIn (s 34 9) (s 34 10) (s 34 11) wd (t 34 63) n f.toNat) (by omega) (by omega)]
          exact ⟨by omega, fun c5 => ⟨by omega, fin _ (by omega)⟩, fun c5 => fin _ (by omega)⟩
        rw [wr_id (x := s 34 10 f) (by omega) (by omega), wr_id (x := s 34 9 f) (by omega) (by omega)]
        refine ⟨by omega, fun c3 => put 0 (by omega) (by omega) ?_, fun c3 => ⟨by omega, fun c4 => put 0 (by omega) (by omega) ?_, fun c4 => ?_⟩⟩
        · rw [if_neg (by omega)]
          omega
        · rw [if_neg (by omega)]
          omega
        · rw [wr_id (x := n - s 34 9 f) (by omega) (by omega)]
          have b2 := hT (n - s 34 9 f) (by omega) (by omega)
          rw [hk (n - s 34 9 f) (by omega)]
          refine ⟨by omega, by omega, by omega, put _ (by omega) (by omega) ?_⟩
          rw [if_pos (by omega)]
    refine inner 0 s2 (by omega) f1.1 (hFt.tr ⟨y1, fun j q => y2 j q⟩) (fun k hk => by rw [y3, uA_n _ (by omega)]) (by rw [y3, uA_s]; rfl)
  exact outer 0 s (by omega) (by omega) FrJ.rf (fun n n0 n1 => by omega)
