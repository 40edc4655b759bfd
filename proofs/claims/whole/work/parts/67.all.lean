/-! ===== KNOWN ORDERS: what a set costs ===== -/
/-- the least over the sets within x, from a on downwards -/
def mnP (g : Nat → Int) (x : Nat) : Nat → Nat → Int → Int
  | 0, _, b => b
  | f + 1, a, b => if a = 0 then b else mnP g x f ((a - 1) &&& x) (min b (g a))
theorem mnP_s {g : Nat → Int} {x : Nat} : ∀ (f a : Nat) (b : Int), a ≤ f → mnP g x f a b = mnP g x a a b
  | 0, a, b, h => by
    have : a = 0 := by omega
    subst this
    rfl
  | f + 1, 0, b, h => rfl
  | f + 1, a + 1, b, h => by
    have hle : (a + 1 - 1) &&& x ≤ a := by
      have : (a + 1 - 1) &&& x ≤ a + 1 - 1 := Nat.and_le_left
      omega
    show (if a + 1 = 0 then b else mnP g x f ((a + 1 - 1) &&& x) (min b (g (a + 1)))) = (if a + 1 = 0 then b else mnP g x a ((a + 1 - 1) &&& x) (min b (g (a + 1))))
    rw [if_neg (by omega), if_neg (by omega), mnP_s f _ _ (by omega), mnP_s a _ _ hle]
theorem mnP_1 {g : Nat → Int} {x a : Nat} {b : Int} (h : 0 < a) : mnP g x a a b = mnP g x ((a - 1) &&& x) ((a - 1) &&& x) (min b (g a)) := by
  have hle : (a - 1) &&& x ≤ a - 1 := Nat.and_le_left
  rw [← mnP_s (a - 1) ((a - 1) &&& x) _ hle]
  obtain ⟨c, rfl⟩ : ∃ c, a = c + 1 := ⟨a - 1, by omega⟩
  show (if c + 1 = 0 then b else mnP g x c ((c + 1 - 1) &&& x) (min b (g (c + 1)))) = _
  rw [if_neg (by omega)]
  rfl
theorem mnP_0 {g : Nat → Int} {x : Nat} {b : Int} : mnP g x 0 0 b = b := rfl
theorem mnP_le {g : Nat → Int} {x : Nat} : ∀ (f a : Nat) (b : Int), mnP g x f a b ≤ b
  | 0, _, b => Int.le_refl _
  | f + 1, a, b => by
    unfold mnP
    split
    · exact Int.le_refl _
    · have := mnP_le (g := g) (x := x) f ((a - 1) &&& x) (min b (g a))
      omega
/-- a property of all that is looked at -/
theorem mnP_P {P : Int → Prop} {g : Nat → Int} {x : Nat} (hg : ∀ a, sub a x → 0 < a → P (g a)) : ∀ (f a : Nat) (b : Int), sub a x → P b → P (mnP g x f a b)
  | 0, _, b, _, h => h
  | f + 1, a, b, hs, h => by
    unfold mnP
    split
    · exact h
    · next q =>
      refine mnP_P hg f _ _ (and_sub _ _) ?_
      rcases Int.le_total b (g a) with c | c
      · rw [Int.min_eq_left c]; exact h
      · rw [Int.min_eq_right c]; exact hg a hs (by omega)
def cnd (E C : Nat → Int) (left th : Int) (x a : Nat) : Int := if C (x ^^^ a) < 1000000 ∧ E a + ((pcn a 9 : Int) - 1) * th ≤ left then C (x ^^^ a) + 1000 + min (left - E a) ((pcn a 9 : Int) * th) else 1000000
def cst (E C : Nat → Int) (left th : Int) (x : Nat) : Int := if x = 0 then C 0 else mnP (cnd E C left th x) x x x (C x)
/-- a cost: BALES times 1000, and what is LOST, of so many ORDERS; or never -/
def vC' (B : Int) (x : Nat) (c : Int) : Prop := c = 1000000 ∨ (0 ≤ c ∧ c / 1000 ≤ B ∧ c % 1000 ≤ 8 * (pcn x 9 : Int))
def phi (c : Int) : Int := if c = 1000000 then 1000000 else c + 9000 * (c / 1000)
theorem vC'_bd {B c : Int} {x : Nat} (h : vC' B x c) (hB : B ≤ 12) : 0 ≤ c ∧ c ≤ 1000000 := by
  have := pcn_le x 9
  rcases h with h | ⟨h1, h2, h3⟩ <;> omega
theorem phi_bd {B c : Int} {x : Nat} (h : vC' B x c) (hB : B ≤ 12) : (0 ≤ phi c ∧ phi c ≤ 1000000) ∧ (phi c < 1000000 ↔ c < 1000000) := by
  have := pcn_le x 9
  unfold phi
  rcases h with h | ⟨h1, h2, h3⟩
  · rw [if_pos h]; omega
  · rw [if_neg (by omega)]; omega
theorem phi_lt {B B' c d : Int} {x y : Nat} (h : vC' B x c) (h' : vC' B' y d) (hB : B ≤ 12) (hB' : B' ≤ 12) : phi c < phi d ↔ c < d := by
  have := pcn_le x 9
  have := pcn_le y 9
  unfold phi
  rcases h with h | ⟨h1, h2, h3⟩
  · rcases h' with h' | ⟨i1, i2, i3⟩
    · rw [if_pos h, if_pos h']; omega
    · rw [if_pos h, if_neg (by omega)]; omega
  · rcases h' with h' | ⟨i1, i2, i3⟩
    · rw [if_neg (by omega), if_pos h']; omega
    · rw [if_neg (by omega), if_neg (by omega)]; omega
theorem cnd_v {E C : Nat → Int} {left th B : Int} {x a : Nat} (hth : 0 ≤ th ∧ th ≤ 8) (hE : 1 ≤ E a) (hl : 0 ≤ left ∧ left ≤ 480) (hs : sub a x) (h0 : 0 < a) (h9 : a < 512) (hB : B ≤ 11) (hC : vC' B (x ^^^ a) (C (x ^^^ a))) : vC' (B + 1) x (cnd E C left th x a) := by
  have hp := pcn_sub hs 9
  have hp2 := pcn_le x 9
  have hp1 := pcn_pos 9 h0 h9
  unfold cnd
  split
  · next c =>
    obtain ⟨c1, c2⟩ := c
    have h8 : ((pcn a 9 : Int)) * th ≤ (pcn a 9 : Int) * 8 := Int.mul_le_mul_of_nonneg_left hth.2 (by omega)
    have h0' : 0 ≤ (pcn a 9 : Int) * th := Int.mul_nonneg (by omega) hth.1
    have h0'' : 0 ≤ ((pcn a 9 : Int) - 1) * th := Int.mul_nonneg (by omega) hth.1
    rcases hC with hC | ⟨d1, d2, d3⟩
    · omega
    · right
      have : 0 ≤ min (left - E a) ((pcn a 9 : Int) * th) ∧ min (left - E a) ((pcn a 9 : Int) * th) ≤ 8 * (pcn a 9 : Int) := by omega
      omega
  · exact Or.inl rfl
/-- the reference's way to count -/
def cnR (E C : Nat → Int) (left th : Int) (x a : Nat) : Int := if E a + ((pcn a 9 : Int) - 1) * th ≤ left ∧ C (x ^^^ a) < 1000000 then C (x ^^^ a) + 10000 + min (left - E a) ((pcn a 9 : Int) * th) else 1000000
theorem cnR_phi {E C C' : Nat → Int} {left th B : Int} {x a : Nat} (hth : 0 ≤ th ∧ th ≤ 8) (hE : 1 ≤ E a) (hs : sub a x) (h0 : 0 < a) (h9 : a < 512) (hB : B ≤ 11) (hC : vC' B (x ^^^ a) (C (x ^^^ a))) (hC' : C' (x ^^^ a) = phi (C (x ^^^ a))) : cnR E C' left th x a = phi (cnd E C left th x a) := by
  have hp := pcn_sub hs 9
  have hp2 := pcn_le x 9
  have hp1 := pcn_pos 9 h0 h9
  have hb := phi_bd hC (by omega)
  unfold cnR cnd
  rw [hC']
  by_cases c1 : E a + ((pcn a 9 : Int) - 1) * th ≤ left
  · by_cases c2 : C (x ^^^ a) < 1000000
    · rw [if_pos ⟨c1, hb.2.mpr c2⟩, if_pos ⟨c2, c1⟩]
      have h8 : ((pcn a 9 : Int)) * th ≤ (pcn a 9 : Int) * 8 := Int.mul_le_mul_of_nonneg_left hth.2 (by omega)
      have h0' : 0 ≤ (pcn a 9 : Int) * th := Int.mul_nonneg (by omega) hth.1
      have h0'' : 0 ≤ ((pcn a 9 : Int) - 1) * th := Int.mul_nonneg (by omega) hth.1
      have hm : 0 ≤ min (left - E a) ((pcn a 9 : Int) * th) ∧ min (left - E a) ((pcn a 9 : Int) * th) ≤ 8 * (pcn a 9 : Int) := by omega
      generalize min (left - E a) ((pcn a 9 : Int) * th) = w at hm ⊢
      rcases hC with hC | ⟨d1, d2, d3⟩
      · omega
      · unfold phi
        rw [if_neg (by omega), if_neg (by omega)]
        omega
    · rw [if_neg (fun z => c2 (hb.2.mp z.2)), if_neg (fun z => c2 z.1)]
      rfl
  · rw [if_neg (fun z => c1 z.1), if_neg (fun z => c1 z.2)]
    rfl
theorem phi_min {B c d : Int} {x : Nat} (h : vC' B x c) (h' : vC' B x d) (hB : B ≤ 12) : phi (min c d) = min (phi c) (phi d) := by
  have h1 := phi_lt h h' hB hB
  have h2 := phi_lt h' h hB hB
  rcases Int.le_total c d with q | q
  · rw [Int.min_eq_left q, Int.min_eq_left (by omega)]
  · rw [Int.min_eq_right q, Int.min_eq_right (by omega)]
theorem mnP_phi {g g' : Nat → Int} {B : Int} {x : Nat} (hB : B ≤ 12) (hg : ∀ a, sub a x → 0 < a → vC' B x (g a) ∧ g' a = phi (g a)) : ∀ (f a : Nat) (b : Int), sub a x → vC' B x b → mnP g' x f a (phi b) = phi (mnP g x f a b)
  | 0, _, b, _, h => rfl
  | f + 1, a, b, hs, h => by
    unfold mnP
    by_cases q : a = 0
    · rw [if_pos q, if_pos q]
    · rw [if_neg q, if_neg q]
      obtain ⟨g1, g2⟩ := hg a hs (by omega)
      rw [g2, ← phi_min h g1 hB]
      refine mnP_phi hB hg f _ _ (and_sub _ _) ?_
      rcases Int.le_total b (g a) with c | c
      · rw [Int.min_eq_left c]; exact h
      · rw [Int.min_eq_right c]; exact g1
/-- what one BALE more makes of the costs, on both sides -/
theorem cst_v {E C : Nat → Int} {left th B : Int} {N : Nat} (hth : 0 ≤ th ∧ th ≤ 8) (hE : ∀ a, 0 < a → a < N → 1 ≤ E a) (hl : 0 ≤ left ∧ left ≤ 480) (hB : B ≤ 11) (hN : N ≤ 512) (hC : ∀ x, x < N → vC' B x (C x)) : ∀ x, x < N → vC' (B + 1) x (cst E C left th x) := by
  intro x hx
  have up : ∀ c, vC' B x c → vC' (B + 1) x c := fun c h => h.elim Or.inl (fun h => Or.inr ⟨h.1, by omega, h.2.2⟩)
  unfold cst
  split
  · next q =>
    subst q
    exact up _ (hC 0 hx)
  · refine mnP_P (P := vC' (B + 1) x) (fun a ha h0 => ?_) x x (C x) (sub_rf x) (up _ (hC x hx))
    have hs := sub_le ha
    exact cnd_v hth (hE a h0 (by omega)) hl ha h0 (by omega) hB (hC _ (by omega))
theorem cst_phi {E C C' : Nat → Int} {left th B : Int} {N : Nat} (hth : 0 ≤ th ∧ th ≤ 8) (hE : ∀ a, 0 < a → a < N → 1 ≤ E a) (hl : 0 ≤ left ∧ left ≤ 480) (hB : B ≤ 11) (hN : N ≤ 512) (hC : ∀ x, x < N → vC' B x (C x)) (hC' : ∀ x, x < N → C' x = phi (C x)) : ∀ x, 0 < x → x < N → mnP (cnR E C' left th x) x x x (C' x) = phi (cst E C left th x) := by
  intro x h0 hx
  have up : ∀ c, vC' B x c → vC' (B + 1) x c := fun c h => h.elim Or.inl (fun h => Or.inr ⟨h.1, by omega, h.2.2⟩)
  unfold cst
  rw [if_neg (by omega), hC' x hx]
  refine mnP_phi (B := B + 1) (by omega) (fun a ha h0 => ?_) x x (C x) (sub_rf x) (up _ (hC x hx))
  have hs := sub_le ha
  exact ⟨cnd_v hth (hE a h0 (by omega)) hl ha h0 (by omega) hB (hC _ (by omega)), cnR_phi hth (hE a h0 (by omega)) ha h0 (by omega) hB (hC _ (by omega)) (hC' _ (by omega))⟩
/-- a BALE that has nothing: no change -/
theorem cst_0 {E C : Nat → Int} {th B : Int} {N : Nat} (hth : 0 ≤ th ∧ th ≤ 8) (hE : ∀ a, 0 < a → a < N → 1 ≤ E a) (hN : N ≤ 512) (hB : B ≤ 12) (hC : ∀ x, x < N → vC' B x (C x)) : ∀ x, x < N → cst E C 0 th x = C x := by
  intro x hx
  unfold cst
  split
  · next q => rw [q]
  · have hb := vC'_bd (hC x hx) hB
    have key : ∀ (f a : Nat) (b : Int), sub a x → b ≤ 1000000 → mnP (cnd E C 0 th x) x f a b = b := by
      intro f
      induction f with
      | zero => exact fun _ _ _ _ => rfl
      | succ f ih =>
        intro a b hs hb
        unfold mnP
        split
        · rfl
        · have hsl := sub_le hs
          have hp1 := pcn_pos (x := a) 9 (by omega) (by omega)
          have h0'' : 0 ≤ ((pcn a 9 : Int) - 1) * th := Int.mul_nonneg (by omega) hth.1
          have := hE a (by omega) (by omega)
          have e : cnd E C 0 th x a = 1000000 := if_neg (fun z => by omega)
          rw [e, Int.min_eq_left hb]
          exact ih _ _ (and_sub _ _) hb
    exact key x x (C x) (sub_rf x) (by omega)
/-! which set -/
def chs (E C : Nat → Int) : Nat → Nat → Nat → Nat
  | 0, _, b => b
  | f + 1, x, b => chs E C f (x + 1) (if C x < 1000000 ∧ (E b < E x ∨ (E x = E b ∧ C x < C b)) then x else b)
theorem chs_lt {E C : Nat → Int} : ∀ (f x b N : Nat), b < N → x + f ≤ N → chs E C f x b < N
  | 0, _, _, _, h, _ => h
  | f + 1, x, b, N, h, h2 => by
    unfold chs
    refine chs_lt f (x + 1) _ N ?_ (by omega)
    split <;> omega
theorem chs_ok {E C : Nat → Int} : ∀ (f x b : Nat), C b < 1000000 → C (chs E C f x b) < 1000000
  | 0, _, _, h => h
  | f + 1, x, b, h => by
    unfold chs
    refine chs_ok f (x + 1) _ ?_
    split
    · next c => exact c.1
    · exact h
theorem chs_c {E C C' : Nat → Int} {N : Nat} (h1 : ∀ x y, x < N → y < N → (C' x < C' y ↔ C x < C y)) (h2 : ∀ x, x < N → (C' x < 1000000 ↔ C x < 1000000)) : ∀ (f x b : Nat), b < N → x + f ≤ N → chs E C' f x b = chs E C f x b
  | 0, _, _, _, _ => rfl
  | f + 1, x, b, hb, hx => by
    unfold chs
    have e : (C' x < 1000000 ∧ (E b < E x ∨ (E x = E b ∧ C' x < C' b))) ↔ (C x < 1000000 ∧ (E b < E x ∨ (E x = E b ∧ C x < C b))) := by
      rw [h2 x (by omega), h1 x b (by omega) hb]
    by_cases q : C x < 1000000 ∧ (E b < E x ∨ (E x = E b ∧ C x < C b))
    · rw [if_pos q, if_pos (e.mpr q)]
      exact chs_c h1 h2 f (x + 1) x (by omega) (by omega)
    · rw [if_neg q, if_neg (fun z => q (e.mp z))]
      exact chs_c h1 h2 f (x + 1) b hb (by omega)
