/-! ===== what a set of ENDS is WORTH ===== -/
def SA (a : Int → Int) (t : Int → Bool) : Nat → Int
  | 0 => 0
  | n + 1 => SA a t n + (if t (n : Int) = true then a (n : Int) else 0)
def lo (el : Int → Bool) (q : Int → Int) (t : Int → Bool) (l : Int) : Int → Bool := fun i => t i && (el i && decide (q i = l))
theorem lo_t {el : Int → Bool} {q : Int → Int} {t : Int → Bool} {l i : Int} : lo el q t l i = true ↔ (t i = true ∧ el i = true ∧ q i = l) := by
  unfold lo
  rw [Bool.and_eq_true, Bool.and_eq_true, decide_eq_true_iff]
theorem lo_um (el : Int → Bool) (q : Int → Int) (t : Int → Bool) (o l : Int) : lo el q (um t o) l = um (lo el q t l) o := by
  funext i
  unfold lo um
  rw [Bool.and_assoc, Bool.and_assoc, Bool.and_comm (!decide (i = o))]
theorem lo_no {el : Int → Bool} {q : Int → Int} {t : Int → Bool} {o l : Int} (h : ¬ (el o = true ∧ q o = l)) : lo el q (um t o) l = lo el q t l := by
  rw [lo_um]
  refine um_e ?_
  cases hx : lo el q t l o with
  | false => rfl
  | true => exact absurd (lo_t.mp hx).2 h
theorem SA_um {a : Int → Int} {t : Int → Bool} {o : Int} (ho : t o = true) : ∀ n : Nat, 0 ≤ o → o < n → SA a t n = SA a (um t o) n + a o
  | 0, h0, h1 => by omega
  | n + 1, h0, h1 => by
    show SA a t n + (if t (n : Int) = true then a (n : Int) else 0) = SA a (um t o) n + (if um t o (n : Int) = true then a (n : Int) else 0) + a o
    by_cases q : o = n
    · have same : ∀ m : Nat, (m : Int) ≤ o → SA a (um t o) m = SA a t m := by
        intro m
        induction m with
        | zero => exact fun _ => rfl
        | succ m ih =>
          intro hm
          show SA a (um t o) m + (if um t o (m : Int) = true then a (m : Int) else 0) = SA a t m + (if t (m : Int) = true then a (m : Int) else 0)
          rw [ih (by omega), um_n (by omega)]
      rw [same n (by omega), ← q, um_s, if_pos ho, if_neg (by decide)]
      omega
    · rw [SA_um ho n h0 (by omega), um_n (fun z => q z.symm)]
      omega
theorem smL_at {f g : Int → Int} {l c : Int} : ∀ n : Nat, 0 ≤ l → (∀ k : Int, 0 ≤ k → k < n → f k + (if k = l then c else 0) ≤ g k) → smL f n + (if l < n then c else 0) ≤ smL g n
  | 0, h0, _ => by
    rw [if_neg (by omega)]
    exact Int.le_refl _
  | n + 1, h0, h => by
    have ih := smL_at (f := f) (g := g) (l := l) (c := c) n h0 (fun k k0 k1 => h k k0 (by omega))
    have hn := h n (by omega) (by omega)
    show smL f n + f (n : Int) + _ ≤ smL g n + g (n : Int)
    by_cases q : (n : Int) = l
    · rw [if_pos q] at hn
      rw [if_neg (by omega)] at ih
      rw [if_pos (by omega)]
      omega
    · rw [if_neg q] at hn
      by_cases q2 : l < n
      · rw [if_pos q2] at ih
        rw [if_pos (by omega)]
        omega
      · rw [if_neg q2] at ih
        rw [if_neg (by omega)]
        omega
theorem smL_ta {f g : Int → Int} {l c : Int} : ∀ n : Nat, 0 ≤ l → (∀ k : Int, 0 ≤ k → k < n → g k ≤ f k + (if k = l then c else 0)) → smL g n ≤ smL f n + (if l < n then c else 0)
  | 0, h0, _ => by
    rw [if_neg (by omega)]
    exact Int.le_refl _
  | n + 1, h0, h => by
    have ih := smL_ta (f := f) (g := g) (l := l) (c := c) n h0 (fun k k0 k1 => h k k0 (by omega))
    have hn := h n (by omega) (by omega)
    show smL g n + g (n : Int) ≤ smL f n + f (n : Int) + _
    by_cases q : (n : Int) = l
    · rw [if_pos q] at hn
      rw [if_neg (by omega)] at ih
      rw [if_pos (by omega)]
      omega
    · rw [if_neg q] at hn
      by_cases q2 : l < n
      · rw [if_pos q2] at ih
        rw [if_pos (by omega)]
        omega
      · rw [if_neg q2] at ih
        rw [if_neg (by omega)]
        omega
theorem smL_le {f g : Int → Int} : ∀ n : Nat, (∀ k : Int, 0 ≤ k → k < n → f k ≤ g k) → smL f n ≤ smL g n
  | 0, _ => Int.le_refl _
  | n + 1, h => by
    have ih := smL_le (f := f) (g := g) n (fun k k0 k1 => h k k0 (by omega))
    have hn := h n (by omega) (by omega)
    show smL f n + f (n : Int) ≤ smL g n + g (n : Int)
    omega
def VV (W : Int) (a : Int → Int) (n : Nat) (el : Int → Bool) (q : Int → Int) (t : Int → Bool) : Int := SA a t n + smL (fun l => GG W a n (lo el q t l)) 10
def prW (W : Int) (el : Int → Bool) (q : Int → Int) (e o : Int) : Int := if el e = true ∧ el o = true ∧ q e = q o then W else 0
theorem aOK.lo {a : Int → Int} {t : Int → Bool} (h : aOK a t) (el : Int → Bool) (q : Int → Int) (l : Int) : aOK a (lo el q t l) := fun i z => h i (lo_t.mp z).1
theorem VS1 {W : Int} {a : Int → Int} {n : Nat} {el : Int → Bool} {q : Int → Int} {t : Int → Bool} {e : Int} (he : t e = true) (er : 0 ≤ e ∧ e < n) : VV W a n el q (um t e) + a e ≤ VV W a n el q t := by
  unfold VV
  have h1 := SA_um (a := a) he n er.1 er.2
  have h2 := smL_le (f := fun l => GG W a n (lo el q (um t e) l)) (g := fun l => GG W a n (lo el q t l)) 10 (fun k _ _ => by
    show GG W a n (lo el q (um t e) k) ≤ GG W a n (lo el q t k)
    rw [lo_um]
    exact GG_mono _ _ _ _ _)
  omega
theorem VS2 {W : Int} {a : Int → Int} {n : Nat} {el : Int → Bool} {q : Int → Int} {t : Int → Bool} {e o : Int} (hW : 0 ≤ W ∧ W ≤ 999) (ha : aOK a t) (hn : n ≤ 10) (he : t e = true) (ho : t o = true) (hne : ¬ o = e) (er : 0 ≤ e ∧ e < n) (or' : 0 ≤ o ∧ o < n) (hq : 0 ≤ q e ∧ q e ≤ 9) : VV W a n el q (um (um t e) o) + prW W el q e o ≤ VV W a n el q t := by
  have ho2 : um t e o = true := um_t.mpr ⟨ho, hne⟩
  by_cases c : el e = true ∧ el o = true ∧ q e = q o
  · unfold VV prW
    rw [if_pos c]
    have h1 := SA_um (a := a) he n er.1 er.2
    have h1' := SA_um (a := a) ho2 n or'.1 or'.2
    have h2 := smL_at (f := fun l => GG W a n (lo el q (um (um t e) o) l)) (g := fun l => GG W a n (lo el q t l)) (l := q e) (c := W - a e - a o) 10 hq.1 (fun k k0 k1 => by
      show GG W a n (lo el q (um (um t e) o) k) + _ ≤ GG W a n (lo el q t k)
      by_cases z : k = q e
      · rw [if_pos z, lo_um, lo_um]
        have := GG_two hW (ha.lo el q k) hn (lo_t.mpr ⟨he, c.1, z.symm⟩) (lo_t.mpr ⟨ho, c.2.1, by omega⟩) hne er or'
        omega
      · rw [if_neg z, lo_no (fun w => z (by omega)), lo_no (fun w => z (by omega))]
        omega)
    rw [if_pos (by omega)] at h2
    omega
  · have h1 := VS1 (W := W) (a := a) (el := el) (q := q) he er
    have h2 := VS1 (W := W) (a := a) (el := el) (q := q) ho2 or'
    unfold prW
    rw [if_neg c]
    have := ha e he
    have := ha o ho
    omega
theorem VS3 {W : Int} {a : Int → Int} {n : Nat} {el : Int → Bool} {q : Int → Int} {t : Int → Bool} {e : Int} (hW : 0 ≤ W ∧ W ≤ 999) (ha : aOK a t) (he : t e = true) (er : 0 ≤ e ∧ e < n) (hq : 0 ≤ q e ∧ q e ≤ 9) : VV W a n el q t ≤ VV W a n el q (um t e) + a e ∨ ∃ o : Int, (0 ≤ o ∧ o < n) ∧ t o = true ∧ ¬ o = e ∧ VV W a n el q t ≤ VV W a n el q (um (um t e) o) + prW W el q e o := by
  have h1 := SA_um (a := a) he n er.1 er.2
  by_cases c : el e = true
  · rcases GG_or hW (n := n) (ha.lo el q (q e)) (lo_t.mpr ⟨he, c, rfl⟩) with z | ⟨o, o1, o2, o3, o4⟩
    · left
      unfold VV
      have h2 := smL_le (f := fun l => GG W a n (lo el q t l)) (g := fun l => GG W a n (lo el q (um t e) l)) 10 (fun k _ _ => by
        show GG W a n (lo el q t k) ≤ GG W a n (lo el q (um t e) k)
        by_cases y : k = q e
        · rw [y, lo_um]
          exact z
        · rw [lo_no (fun w => y w.2.symm)]
          exact Int.le_refl _)
      omega
    · right
      obtain ⟨p1, p2, p3⟩ := lo_t.mp o2
      refine ⟨o, o1, p1, o3, ?_⟩
      have h1' := SA_um (a := a) (t := um t e) (o := o) (um_t.mpr ⟨p1, o3⟩) n o1.1 o1.2
      have h2 := smL_ta (f := fun l => GG W a n (lo el q (um (um t e) o) l)) (g := fun l => GG W a n (lo el q t l)) (l := q e) (c := W - a e - a o) 10 hq.1 (fun k k0 k1 => by
        show GG W a n (lo el q t k) ≤ GG W a n (lo el q (um (um t e) o) k) + _
        by_cases y : k = q e
        · rw [if_pos y, lo_um, lo_um, y]
          omega
        · rw [if_neg y, lo_no (fun w => y (by omega)), lo_no (fun w => y (by omega))]
          omega)
      rw [if_pos (by omega)] at h2
      unfold VV prW
      rw [if_pos ⟨c, p2, p3.symm⟩]
      omega
  · left
    unfold VV
    have h2 := smL_le (f := fun l => GG W a n (lo el q t l)) (g := fun l => GG W a n (lo el q (um t e) l)) 10 (fun k _ _ => by
      show GG W a n (lo el q t k) ≤ GG W a n (lo el q (um t e) k)
      rw [lo_no (fun w => c w.1)]
      exact Int.le_refl _)
    omega
theorem VV_z {W : Int} {a : Int → Int} {n : Nat} {el : Int → Bool} {q : Int → Int} {t : Int → Bool} (hW : 0 ≤ W ∧ W ≤ 999) (h : ∀ i, t i = false) : VV W a n el q t = 0 := by
  unfold VV
  have h1 : ∀ m : Nat, SA a t m = 0 := by
    intro m
    induction m with
    | zero => rfl
    | succ m ih =>
      show SA a t m + (if t (m : Int) = true then a (m : Int) else 0) = 0
      rw [ih, h, if_neg (by decide)]
      rfl
  have h2 : ∀ m : Nat, smL (fun l => GG W a n (lo el q t l)) m = 0 := by
    intro m
    induction m with
    | zero => rfl
    | succ m ih =>
      show smL (fun l => GG W a n (lo el q t l)) m + GG W a n (lo el q t (m : Int)) = 0
      rw [ih, GG_none hW (fun i => by unfold lo; rw [h]; rfl)]
      rfl
  rw [h1, h2]
  rfl
theorem SA_congr {a a' : Int → Int} {t t' : Int → Bool} : ∀ n : Nat, (∀ i : Int, 0 ≤ i → i < n → a i = a' i ∧ t i = t' i) → SA a t n = SA a' t' n
  | 0, _ => rfl
  | n + 1, h => by
    show SA a t n + (if t (n : Int) = true then a (n : Int) else 0) = SA a' t' n + (if t' (n : Int) = true then a' (n : Int) else 0)
    rw [SA_congr n (fun i i0 i1 => h i i0 (by omega)), (h n (by omega) (by omega)).1, (h n (by omega) (by omega)).2]
theorem PP_cong {a a' : Int → Int} {u u' : Int → Bool} : ∀ (m : Nat) (i : Int) (k : Nat), (∀ x, i ≤ x → x < i + m → a x = a' x ∧ u x = u' x) → PP a u m i k = PP a' u' m i k
  | 0, _, _, _ => rfl
  | m + 1, i, 0, _ => rfl
  | m + 1, i, k + 1, h => by
    obtain ⟨e0, e⟩ := h i (by omega) (by omega)
    have h' : ∀ x, i + 1 ≤ x → x < i + 1 + m → a x = a' x ∧ u x = u' x := fun x x0 x1 => h x (by omega) (by omega)
    by_cases q : u i = true
    · rw [PP_t q, PP_t (by rw [← e]; exact q), PP_cong m (i + 1) (k + 1) h', PP_cong m (i + 1) k h', e0]
    · rw [PP_f q, PP_f (by rw [← e]; exact q), PP_cong m (i + 1) (k + 1) h']
theorem GG_cong {W : Int} {a a' : Int → Int} {n : Nat} {u u' : Int → Bool} (h : ∀ x : Int, 0 ≤ x → x < n → a x = a' x ∧ u x = u' x) : GG W a n u = GG W a' n u' := by
  unfold GG
  have e : PP a u n 0 = PP a' u' n 0 := by
    funext k
    exact PP_cong n 0 k (fun x x0 x1 => h x x0 (by omega))
  rw [e]
theorem VV_cong {W : Int} {a a' : Int → Int} {n : Nat} {el el' : Int → Bool} {q q' : Int → Int} {t t' : Int → Bool} (h : ∀ x : Int, 0 ≤ x → x < n → a x = a' x ∧ el x = el' x ∧ q x = q' x ∧ t x = t' x) : VV W a n el q t = VV W a' n el' q' t' := by
  unfold VV
  rw [SA_congr n (fun i i0 i1 => ⟨(h i i0 i1).1, (h i i0 i1).2.2.2⟩)]
  congr 1
  refine smL_congr (fun k hk => ?_)
  refine GG_cong (fun x x0 x1 => ⟨(h x x0 x1).1, ?_⟩)
  obtain ⟨-, h2, h3, h4⟩ := h x x0 x1
  unfold lo
  rw [h2, h3, h4]
