/-! ===== PAIRS of a lot: the least sums of so many, and what they gain ===== -/
def um (u : Int → Bool) (o : Int) : Int → Bool := fun i => u i && !(decide (i = o))
theorem um_t {u : Int → Bool} {o i : Int} : um u o i = true ↔ (u i = true ∧ ¬ i = o) := by
  unfold um
  rw [Bool.and_eq_true, Bool.not_eq_true', decide_eq_false_iff_not]
theorem um_s (u : Int → Bool) (o : Int) : um u o o = false := by
  unfold um
  rw [decide_eq_true rfl]
  exact Bool.and_false _
theorem um_n {u : Int → Bool} {o i : Int} (h : ¬ i = o) : um u o i = u i := by
  unfold um
  rw [decide_eq_false h]
  exact Bool.and_true _
theorem um_e {u : Int → Bool} {o : Int} (h : u o = false) : um u o = u := by
  funext i
  by_cases q : i = o
  · rw [q, um_s, h]
  · exact um_n q
theorem um_c (u : Int → Bool) (o e : Int) : um (um u o) e = um (um u e) o := by
  funext i
  unfold um
  rw [Bool.and_assoc, Bool.and_assoc, Bool.and_comm (!decide (i = o))]
def PP (a : Int → Int) (u : Int → Bool) : Nat → Int → Nat → Int
  | 0, _, k => 1000000 * (k : Int)
  | _ + 1, _, 0 => 0
  | m + 1, i, k + 1 => if u i = true then min (PP a u m (i + 1) (k + 1)) (a i + PP a u m (i + 1) k) else PP a u m (i + 1) (k + 1)
theorem PP_0 (a : Int → Int) (u : Int → Bool) : ∀ (m : Nat) (i : Int), PP a u m i 0 = 0
  | 0, _ => rfl
  | _ + 1, _ => rfl
theorem PP_t {a : Int → Int} {u : Int → Bool} {m : Nat} {i : Int} {k : Nat} (h : u i = true) : PP a u (m + 1) i (k + 1) = min (PP a u m (i + 1) (k + 1)) (a i + PP a u m (i + 1) k) := if_pos h
theorem PP_f {a : Int → Int} {u : Int → Bool} {m : Nat} {i : Int} {k : Nat} (h : ¬ u i = true) : PP a u (m + 1) i (k + 1) = PP a u m (i + 1) (k + 1) := if_neg h
theorem PP_z (a : Int → Int) (u : Int → Bool) (i : Int) (k : Nat) : PP a u 0 i k = 1000000 * (k : Int) := rfl
/-- one more to choose from: no greater -/
theorem PP_up (a : Int → Int) (u : Int → Bool) (m : Nat) (i : Int) : ∀ k : Nat, PP a u (m + 1) i k ≤ PP a u m (i + 1) k
  | 0 => by rw [PP_0, PP_0]; exact Int.le_refl _
  | k + 1 => by
    by_cases h : u i = true
    · rw [PP_t h]; omega
    · rw [PP_f h]; exact Int.le_refl _
theorem PP_up2 {a : Int → Int} {u : Int → Bool} {m : Nat} {i : Int} {k : Nat} (h : u i = true) : PP a u (m + 1) i (k + 1) ≤ a i + PP a u m (i + 1) k := by
  rw [PP_t h]; omega
theorem PP_congr {a : Int → Int} {u u' : Int → Bool} : ∀ (m : Nat) (i : Int) (k : Nat), (∀ x, i ≤ x → x < i + m → u x = u' x) → PP a u m i k = PP a u' m i k
  | 0, _, _, _ => rfl
  | m + 1, i, 0, _ => rfl
  | m + 1, i, k + 1, h => by
    have e := h i (by omega) (by omega)
    have h' : ∀ x, i + 1 ≤ x → x < i + 1 + m → u x = u' x := fun x x0 x1 => h x (by omega) (by omega)
    by_cases q : u i = true
    · rw [PP_t q, PP_t (by rw [← e]; exact q), PP_congr m (i + 1) (k + 1) h', PP_congr m (i + 1) k h']
    · rw [PP_f q, PP_f (by rw [← e]; exact q), PP_congr m (i + 1) (k + 1) h']
theorem PP_mono (a : Int → Int) (u : Int → Bool) (o : Int) : ∀ (m : Nat) (i : Int) (k : Nat), PP a u m i k ≤ PP a (um u o) m i k
  | 0, _, _ => Int.le_refl _
  | m + 1, i, 0 => Int.le_refl _
  | m + 1, i, k + 1 => by
    have h1 := PP_mono a u o m (i + 1) (k + 1)
    have h2 := PP_mono a u o m (i + 1) k
    by_cases q : um u o i = true
    · have q2 := (um_t.mp q).1
      rw [PP_t q, PP_t q2]; omega
    · rw [PP_f q]
      have := PP_up a u m i (k + 1)
      omega
/-- with one of them -/
theorem PP_with {a : Int → Int} {u : Int → Bool} {o : Int} (ho : u o = true) : ∀ (m : Nat) (i : Int) (k : Nat), i ≤ o → o < i + m → PP a u m i (k + 1) ≤ a o + PP a (um u o) m i k
  | 0, i, k, h0, h1 => by omega
  | m + 1, i, k, h0, h1 => by
    by_cases q : i = o
    · subst q
      have h2 := PP_up2 (a := a) (m := m) (k := k) ho
      have h3 : PP a (um u i) (m + 1) i k = PP a u m (i + 1) k := by
        cases k with
        | zero => rw [PP_0, PP_0]
        | succ k => rw [PP_f (by rw [um_s]; decide)]; exact PP_congr m (i + 1) (k + 1) (fun x x0 _ => um_n (by omega))
      rw [h3]; exact h2
    · have hI := fun k => PP_with (a := a) ho m (i + 1) k (by omega) (by omega)
      have hk := hI k
      cases k with
      | zero =>
        have := PP_up a u m i 1
        rw [PP_0] at hk ⊢
        show PP a u (m + 1) i 1 ≤ _
        have hk : PP a u m (i + 1) 1 ≤ a o + 0 := hk
        omega
      | succ k =>
        have hk2 := hI k
        by_cases r : u i = true
        · rw [PP_t r, PP_t (by rw [um_n q]; exact r)]; omega
        · rw [PP_f r, PP_f (by rw [um_n q]; exact r)]; exact hk
/-- one is among the least, or not -/
theorem PP_rem {a : Int → Int} {u : Int → Bool} {e : Int} : ∀ (m : Nat) (i : Int) (k : Nat), PP a (um u e) m i (k + 1) ≤ PP a u m i (k + 1) ∨ a e + PP a (um u e) m i k ≤ PP a u m i (k + 1)
  | 0, i, k => Or.inl (Int.le_refl _)
  | m + 1, i, k => by
    have hI := fun k => PP_rem (a := a) (u := u) (e := e) m (i + 1) k
    have hk := hI k
    have u1 := PP_up a (um u e) m i (k + 1)
    have u2 := PP_up a (um u e) m i k
    by_cases r : u i = true
    · by_cases q : i = e
      · subst q
        have h3 : ∀ k, PP a (um u i) (m + 1) i k = PP a u m (i + 1) k := by
          intro k
          cases k with
          | zero => rw [PP_0, PP_0]
          | succ k => rw [PP_f (by rw [um_s]; decide)]; exact PP_congr m (i + 1) (k + 1) (fun x x0 _ => um_n (by omega))
        rw [h3, h3, PP_t r]; omega
      · have r2 : um u e i = true := by rw [um_n q]; exact r
        have u3 := PP_up2 (a := a) (m := m) (k := k) r2
        rw [PP_t r]
        by_cases c : PP a u m (i + 1) (k + 1) ≤ a i + PP a u m (i + 1) k
        · omega
        · cases k with
          | zero =>
            have z1 : PP a u m (i + 1) 0 = 0 := PP_0 _ _ _ _
            have z2 : PP a (um u e) m (i + 1) 0 = 0 := PP_0 _ _ _ _
            left; omega
          | succ k =>
            have hk2 := hI k
            have u4 := PP_up2 (a := a) (m := m) (k := k) r2
            omega
    · rw [PP_f r]
      omega
theorem PP_step {a : Int → Int} {u : Int → Bool} {c : Int} (hc : c ≤ 1000000) (hu : ∀ i, u i = true → c ≤ a i) : ∀ (m : Nat) (i : Int) (k : Nat), c + PP a u m i k ≤ PP a u m i (k + 1)
  | 0, i, k => by rw [PP_z, PP_z]; omega
  | m + 1, i, k => by
    have h1 := PP_step hc hu m (i + 1) k
    have u1 := PP_up a u m i k
    by_cases r : u i = true
    · have := hu i r
      rw [PP_t r]; omega
    · rw [PP_f r]; omega
theorem PP_least {a : Int → Int} {u : Int → Bool} {o : Int} (hc : a o ≤ 1000000) (hu : ∀ i, u i = true → a o ≤ a i) : ∀ (m : Nat) (i : Int) (k : Nat), i ≤ o → o < i + m → a o + PP a (um u o) m i k ≤ PP a u m i (k + 1)
  | 0, i, k, h0, h1 => by omega
  | m + 1, i, k, h0, h1 => by
    by_cases q : i = o
    · subst q
      have h3 : PP a (um u i) (m + 1) i k = PP a u m (i + 1) k := by
        cases k with
        | zero => rw [PP_0, PP_0]
        | succ k => rw [PP_f (by rw [um_s]; decide)]; exact PP_congr m (i + 1) (k + 1) (fun x x0 _ => um_n (by omega))
      have h2 := PP_step hc hu m (i + 1) k
      rw [h3]
      by_cases r : u i = true
      · rw [PP_t r]; omega
      · rw [PP_f r]; exact h2
    · have hI := fun k => PP_least hc hu m (i + 1) k (by omega) (by omega)
      have hk := hI k
      have u1 := PP_up a (um u o) m i k
      by_cases r : u i = true
      · have hai := hu i r
        have r2 : um u o i = true := by rw [um_n q]; exact r
        rw [PP_t r]
        cases k with
        | zero =>
          have z1 : PP a u m (i + 1) 0 = 0 := PP_0 _ _ _ _
          have z2 : PP a (um u o) m (i + 1) 0 = 0 := PP_0 _ _ _ _
          omega
        | succ k =>
          have hk2 := hI k
          have u4 := PP_up2 (a := a) (m := m) (k := k) r2
          omega
      · rw [PP_f r]; omega
theorem PP_exi {a : Int → Int} {u : Int → Bool} : ∀ (m : Nat) (i : Int) (k : Nat), 1000000 ≤ PP a u m i (k + 1) ∨ ∃ o, (i ≤ o ∧ o < i + m) ∧ u o = true ∧ a o + PP a (um u o) m i k ≤ PP a u m i (k + 1)
  | 0, i, k => Or.inl (by rw [PP_z]; omega)
  | m + 1, i, k => by
    have up : ∀ P : Prop, (PP a u m (i + 1) (k + 1) ≤ PP a u (m + 1) i (k + 1)) → 1000000 ≤ PP a u (m + 1) i (k + 1) ∨ ∃ o, (i ≤ o ∧ o < i + (m + 1 : Nat)) ∧ u o = true ∧ a o + PP a (um u o) (m + 1) i k ≤ PP a u (m + 1) i (k + 1) := by
      intro _ hle
      rcases PP_exi (a := a) (u := u) m (i + 1) k with q | ⟨o, ⟨o1, o2⟩, o3, o4⟩
      · left; omega
      · right
        have := PP_up a (um u o) m i k
        exact ⟨o, ⟨by omega, by omega⟩, o3, by omega⟩
    by_cases r : u i = true
    · by_cases c : PP a u m (i + 1) (k + 1) ≤ a i + PP a u m (i + 1) k
      · exact up True (by rw [PP_t r]; omega)
      · right
        have h3 : PP a (um u i) (m + 1) i k = PP a u m (i + 1) k := by
          cases k with
          | zero => rw [PP_0, PP_0]
          | succ k => rw [PP_f (by rw [um_s]; decide)]; exact PP_congr m (i + 1) (k + 1) (fun x x0 _ => um_n (by omega))
        exact ⟨i, ⟨by omega, by omega⟩, r, by rw [h3, PP_t r]; omega⟩
    · exact up True (by rw [PP_f r]; exact Int.le_refl _)
theorem PP_far {a : Int → Int} {u : Int → Bool} (hu : ∀ i, u i = true → 0 ≤ a i) : ∀ (m : Nat) (i : Int) (k : Nat), 1000000 * ((k : Int) - m) ≤ PP a u m i k
  | 0, i, k => by rw [PP_z]; omega
  | m + 1, i, 0 => by rw [PP_0]; omega
  | m + 1, i, k + 1 => by
    have h1 := PP_far hu m (i + 1) (k + 1)
    have h2 := PP_far hu m (i + 1) k
    by_cases r : u i = true
    · have := hu i r
      rw [PP_t r]; omega
    · rw [PP_f r]; omega
theorem PP_lin {a : Int → Int} {u : Int → Bool} {c : Int} (hc : c ≤ 1000000) (hu : ∀ i, u i = true → c ≤ a i) (m : Nat) (i : Int) : ∀ k : Nat, c * (k : Int) ≤ PP a u m i k
  | 0 => by rw [PP_0]; omega
  | k + 1 => by
    have h1 := PP_lin hc hu m i k
    have h2 := PP_step hc hu m i k
    have e : c * ((k + 1 : Nat) : Int) = c * (k : Int) + c := by rw [show ((k + 1 : Nat) : Int) = (k : Int) + 1 by omega, Int.mul_add, Int.mul_one]
    omega
theorem PP_none {a : Int → Int} {u : Int → Bool} (hu : ∀ i, u i = false) : ∀ (m : Nat) (i : Int) (k : Nat), PP a u m i k = 1000000 * (k : Int)
  | 0, i, k => rfl
  | m + 1, i, 0 => by rw [PP_0]; rfl
  | m + 1, i, k + 1 => by
    rw [PP_f (by rw [hu i]; decide)]
    exact PP_none hu m (i + 1) (k + 1)
/-! what so many PAIRS gain, at the most -/
def GM (W : Int) (p : Nat → Int) : Nat → Int
  | 0 => 0
  | j + 1 => max (GM W p j) (((j + 1 : Nat) : Int) * W - p (2 * (j + 1)))
theorem GM_0 (W : Int) (p : Nat → Int) : ∀ J : Nat, 0 ≤ GM W p J
  | 0 => Int.le_refl _
  | J + 1 => by
    have := GM_0 W p J
    show 0 ≤ max (GM W p J) _
    omega
theorem GM_le {W : Int} {p : Nat → Int} {j : Nat} (h0 : 1 ≤ j) : ∀ J : Nat, j ≤ J → (j : Int) * W - p (2 * j) ≤ GM W p J
  | 0, h => by omega
  | J + 1, h => by
    show _ ≤ max (GM W p J) (((J + 1 : Nat) : Int) * W - p (2 * (J + 1)))
    by_cases q : j = J + 1
    · subst q; omega
    · have := GM_le (W := W) (p := p) h0 J (by omega)
      omega
theorem GM_ex (W : Int) (p : Nat → Int) : ∀ J : Nat, GM W p J = 0 ∨ ∃ j, 1 ≤ j ∧ j ≤ J ∧ GM W p J = (j : Int) * W - p (2 * j)
  | 0 => Or.inl rfl
  | J + 1 => by
    have e : GM W p (J + 1) = max (GM W p J) (((J + 1 : Nat) : Int) * W - p (2 * (J + 1))) := rfl
    by_cases q : GM W p J ≤ ((J + 1 : Nat) : Int) * W - p (2 * (J + 1))
    · exact Or.inr ⟨J + 1, by omega, Nat.le_refl _, by rw [e]; omega⟩
    · have e2 : GM W p (J + 1) = GM W p J := by rw [e]; omega
      rcases GM_ex W p J with r | ⟨j, j0, j1, j2⟩
      · exact Or.inl (by omega)
      · exact Or.inr ⟨j, j0, by omega, by omega⟩
def GG (W : Int) (a : Int → Int) (n : Nat) (u : Int → Bool) : Int := GM W (PP a u n 0) 10
/-- what holds of the ENDS: none is worth less than 0, none too much; the PAIR too -/
def aOK (a : Int → Int) (u : Int → Bool) : Prop := ∀ i, u i = true → 0 ≤ a i ∧ a i ≤ 1000000
theorem aOK.um {a : Int → Int} {u : Int → Bool} (h : aOK a u) (o : Int) : aOK a (um u o) := fun i q => h i (um_t.mp q).1
theorem GG_0 (W : Int) (a : Int → Int) (n : Nat) (u : Int → Bool) : 0 ≤ GG W a n u := GM_0 _ _ _
theorem jW {W : Int} {j : Nat} (hW : 0 ≤ W ∧ W ≤ 999) (hj : j ≤ 10) : 0 ≤ (j : Int) * W ∧ (j : Int) * W ≤ 9990 := by
  have h1 : (j : Int) * W ≤ 10 * W := Int.mul_le_mul_of_nonneg_right (by omega) hW.1
  have h2 : 0 ≤ (j : Int) * W := Int.mul_nonneg (by omega) hW.1
  omega
theorem jW_1 (W : Int) (j : Nat) : ((j + 1 : Nat) : Int) * W = (j : Int) * W + W := by
  rw [show ((j + 1 : Nat) : Int) = (j : Int) + 1 by omega, Int.add_mul, Int.one_mul]
theorem GG_mono (W : Int) (a : Int → Int) (n : Nat) (u : Int → Bool) (o : Int) : GG W a n (um u o) ≤ GG W a n u := by
  unfold GG
  rcases GM_ex W (PP a (um u o) n 0) 10 with q | ⟨j, j0, j1, j2⟩
  · rw [q]; exact GM_0 _ _ _
  · rw [j2]
    have h1 := GM_le (W := W) (p := PP a u n 0) j0 10 j1
    have h2 := PP_mono a u o n 0 (2 * j)
    omega
theorem GG_two {W : Int} {a : Int → Int} {n : Nat} {u : Int → Bool} {e o : Int} (hW : 0 ≤ W ∧ W ≤ 999) (ha : aOK a u) (hn : n ≤ 10) (he : u e = true) (ho : u o = true) (hne : ¬ o = e) (er : 0 ≤ e ∧ e < n) (or' : 0 ≤ o ∧ o < n) : W - a e - a o + GG W a n (um (um u e) o) ≤ GG W a n u := by
  unfold GG
  have key : ∀ j : Nat, PP a u n 0 (2 * (j + 1)) ≤ a e + a o + PP a (um (um u e) o) n 0 (2 * j) := fun j => by
    have h1 := PP_with (a := a) he n 0 (2 * j + 1) (by omega) (by omega)
    have h2 := PP_with (a := a) (u := um u e) (o := o) (um_t.mpr ⟨ho, hne⟩) n 0 (2 * j) (by omega) (by omega)
    rw [show 2 * (j + 1) = 2 * j + 1 + 1 by omega]
    omega
  rcases GM_ex W (PP a (um (um u e) o) n 0) 10 with q | ⟨j, j0, j1, j2⟩
  · rw [q]
    have h1 := GM_le (W := W) (p := PP a u n 0) (j := 1) (by omega) 10 (by omega)
    have h2 := key 0
    rw [show 2 * 0 = 0 by omega, PP_0] at h2
    have h2 : PP a u n 0 (2 * 1) ≤ a e + a o + 0 := h2
    have h3 : ((1 : Nat) : Int) * W = W := by omega
    omega
  · by_cases c : j = 10
    · subst c
      have h0 := GM_0 W (PP a (um (um u e) o) n 0) 10
      have hf := PP_far (a := a) (u := um (um u e) o) (fun i q => (((ha.um e).um o) i q).1) n 0 (2 * 10)
      have := jW hW (Nat.le_refl 10)
      omega
    · rw [j2]
      have h1 := GM_le (W := W) (p := PP a u n 0) (j := j + 1) (by omega) 10 (by omega)
      have h2 := key j
      rw [jW_1] at h1
      omega
theorem GG_or {W : Int} {a : Int → Int} {n : Nat} {u : Int → Bool} {e : Int} (hW : 0 ≤ W ∧ W ≤ 999) (ha : aOK a u) (he : u e = true) : GG W a n u ≤ GG W a n (um u e) ∨ ∃ o : Int, (0 ≤ o ∧ o < n) ∧ u o = true ∧ ¬ o = e ∧ GG W a n u ≤ W - a e - a o + GG W a n (um (um u e) o) := by
  unfold GG
  have hp0 := GM_0 W (PP a u n 0) 10
  rcases GM_ex W (PP a u n 0) 10 with q | ⟨j, j0, j1, j2⟩
  · left
    rw [q]
    exact GM_0 _ _ _
  · rw [j2] at hp0 ⊢
    obtain ⟨i, rfl⟩ : ∃ i, j = i + 1 := ⟨j - 1, by omega⟩
    rw [show 2 * (i + 1) = 2 * i + 1 + 1 by omega] at hp0 ⊢
    rcases PP_rem (a := a) (u := u) (e := e) n 0 (2 * i + 1) with q | q
    · left
      have h1 := GM_le (W := W) (p := PP a (um u e) n 0) (j := i + 1) (by omega) 10 j1
      rw [show 2 * (i + 1) = 2 * i + 1 + 1 by omega] at h1
      omega
    · rcases PP_exi (a := a) (u := um u e) n 0 (2 * i) with r | ⟨o, o1, o2, o3⟩
      · have := jW hW j1
        have := (ha e he).1
        omega
      · right
        obtain ⟨o4, o5⟩ := um_t.mp o2
        refine ⟨o, ⟨o1.1, by omega⟩, o4, o5, ?_⟩
        rw [jW_1]
        by_cases c : i = 0
        · subst c
          have h0 := GM_0 W (PP a (um (um u e) o) n 0) 10
          rw [show 2 * 0 = 0 by omega, PP_0] at o3
          have q : a e + PP a (um u e) n 0 (0 + 1) ≤ PP a u n 0 (2 * 0 + 1 + 1) := q
          have : ((0 : Nat) : Int) * W = 0 := by omega
          omega
        · have h1 := GM_le (W := W) (p := PP a (um (um u e) o) n 0) (j := i) (by omega) 10 (by omega)
          omega
/-- the two of a lot that are worth least alone -/
theorem GG_least {W : Int} {a : Int → Int} {n : Nat} {u : Int → Bool} {e o : Int} (hW : 0 ≤ W ∧ W ≤ 999) (ha : aOK a u) (hn : n ≤ 10) (he : u e = true) (ho : u o = true) (hne : ¬ o = e) (er : 0 ≤ e ∧ e < n) (or' : 0 ≤ o ∧ o < n) (l1 : ∀ i, u i = true → a e ≤ a i) (l2 : ∀ i, u i = true → ¬ i = e → a o ≤ a i) : GG W a n u = if 0 < W - a e - a o then W - a e - a o + GG W a n (um (um u e) o) else 0 := by
  have key : ∀ k : Nat, a e + a o + PP a (um (um u e) o) n 0 k ≤ PP a u n 0 (k + 2) := fun k => by
    have h1 := PP_least (a := a) (u := u) (o := e) (ha e he).2 l1 n 0 (k + 1) (by omega) (by omega)
    have h2 := PP_least (a := a) (u := um u e) (o := o) (ha o ho).2 (fun i q => l2 i (um_t.mp q).1 (um_t.mp q).2) n 0 k (by omega) (by omega)
    rw [show k + 2 = k + 1 + 1 by omega]
    omega
  have hp0 := GG_0 W a n u
  have hp1 := GG_0 W a n (um (um u e) o)
  by_cases c : 0 < W - a e - a o
  · rw [if_pos c]
    have hge := GG_two hW ha hn he ho hne er or'
    refine Int.le_antisymm ?_ hge
    unfold GG at hp0 hp1 ⊢
    rcases GM_ex W (PP a u n 0) 10 with q | ⟨j, j0, j1, j2⟩
    · omega
    · obtain ⟨i, rfl⟩ : ∃ i, j = i + 1 := ⟨j - 1, by omega⟩
      rw [j2, jW_1, show 2 * (i + 1) = 2 * i + 2 by omega]
      have h2 := key (2 * i)
      by_cases c2 : i = 0
      · subst c2
        rw [show 2 * 0 = 0 by omega, PP_0] at h2
        rw [show 2 * 0 = 0 by omega]
        have : ((0 : Nat) : Int) * W = 0 := by omega
        omega
      · have h1 := GM_le (W := W) (p := PP a (um (um u e) o) n 0) (j := i) (by omega) 10 (by omega)
        omega
  · rw [if_neg c]
    refine Int.le_antisymm ?_ hp0
    unfold GG
    rcases GM_ex W (PP a u n 0) 10 with q | ⟨j, j0, j1, j2⟩
    · omega
    · obtain ⟨i, rfl⟩ : ∃ i, j = i + 1 := ⟨j - 1, by omega⟩
      rw [j2, jW_1, show 2 * (i + 1) = 2 * i + 2 by omega]
      have h2 := key (2 * i)
      have h3 := PP_lin (a := a) (u := um (um u e) o) (c := a o) (ha o ho).2 (fun x q => l2 x (um_t.mp (um_t.mp q).1).1 (um_t.mp (um_t.mp q).1).2) n 0 (2 * i)
      have h4 := l1 o ho
      have h5 : (i : Int) * W ≤ (i : Int) * (2 * a o) := Int.mul_le_mul_of_nonneg_left (by omega) (by omega)
      have h6 : a o * ((2 * i : Nat) : Int) = (i : Int) * (2 * a o) := by
        rw [show ((2 * i : Nat) : Int) = 2 * (i : Int) by omega, Int.mul_comm, Int.mul_comm 2 (i : Int), Int.mul_assoc]
      omega
theorem GG_none {W : Int} {a : Int → Int} {n : Nat} {u : Int → Bool} (hW : 0 ≤ W ∧ W ≤ 999) (hu : ∀ i, u i = false) : GG W a n u = 0 := by
  have hp0 := GG_0 W a n u
  refine Int.le_antisymm ?_ hp0
  unfold GG
  rcases GM_ex W (PP a u n 0) 10 with q | ⟨j, j0, j1, j2⟩
  · omega
  · rw [j2, PP_none hu]
    have := jW hW j1
    omega
theorem GG_one {W : Int} {a : Int → Int} {n : Nat} {u : Int → Bool} {e : Int} (hW : 0 ≤ W ∧ W ≤ 999) (ha : aOK a u) (he : u e = true) (er : 0 ≤ e ∧ e < n) (hu : ∀ i, u i = true → i = e) : GG W a n u = 0 := by
  have hp0 := GG_0 W a n u
  refine Int.le_antisymm ?_ hp0
  unfold GG
  rcases GM_ex W (PP a u n 0) 10 with q | ⟨j, j0, j1, j2⟩
  · omega
  · obtain ⟨i, rfl⟩ : ∃ i, j = i + 1 := ⟨j - 1, by omega⟩
    have h1 := PP_least (a := a) (u := u) (o := e) (ha e he).2 (fun i q => by rw [hu i q]; exact Int.le_refl _) n 0 (2 * i + 1) (by omega) (by omega)
    have hz : ∀ x, um u e x = false := fun x => by
      cases hx : um u e x with
      | false => rfl
      | true => exact absurd (hu x (um_t.mp hx).1) (um_t.mp hx).2
    rw [PP_none hz] at h1
    rw [j2, show 2 * (i + 1) = 2 * i + 1 + 1 by omega]
    have := jW hW j1
    have := (ha e he).1
    omega
