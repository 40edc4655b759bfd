/-! ===== pure rows: numbers, stores, loops ===== -/
theorem wr_id {x : Int} (h1 : -2147483648 ≤ x) (h2 : x < 2147483648) : wr x = x := by unfold wr; omega
theorem wL_id {x : Int} (h1 : -9223372036854775808 ≤ x) (h2 : x < 9223372036854775808) : wL x = x := by unfold wL; omega
theorem wr_in (x : Int) : -2147483648 ≤ wr x ∧ wr x < 2147483648 := by unfold wr; omega
theorem wL_wr (x : Int) : wL (wr x) = wr x := wL_id (by have := wr_in x; omega) (by have := wr_in x; omega)
theorem wr_wr (x : Int) : wr (wr x) = wr x := wr_id (wr_in x).1 (wr_in x).2
theorem lcp_cases (x y : Int) : (lcp x y = -1 ∧ wL x < wL y) ∨ (lcp x y = 0 ∧ wL x = wL y) ∨ (lcp x y = 1 ∧ wL y < wL x) := by
  unfold lcp lg_cmp
  have h1 : lI x > lI y ↔ wL y < wL x := by rw [← wL_def, ← wL_def]; exact Int64.lt_iff_toInt_lt
  have h2 : lI x = lI y ↔ wL x = wL y := by rw [← wL_def, ← wL_def]; exact Int64.toInt_inj.symm
  by_cases a : lI x > lI y
  · rw [if_pos a]
    exact Or.inr (Or.inr ⟨by decide, h1.mp a⟩)
  · rw [if_neg a]
    by_cases b : lI x = lI y
    · rw [if_pos b]
      exact Or.inr (Or.inl ⟨by decide, h2.mp b⟩)
    · rw [if_neg b]
      have h3 : ¬ wL y < wL x := fun q => a (h1.mpr q)
      have h4 : ¬ wL x = wL y := fun q => b (h2.mpr q)
      exact Or.inl ⟨by decide, by omega⟩
theorem lcp_lt (x y : Int) : wr (lcp x y) < 0 ↔ wL x < wL y := by
  rcases lcp_cases x y with ⟨h, q⟩ | ⟨h, q⟩ | ⟨h, q⟩ <;> rw [h] <;> unfold wr <;> omega
theorem lcp_gt (x y : Int) : 0 < wr (lcp x y) ↔ wL y < wL x := by
  rcases lcp_cases x y with ⟨h, q⟩ | ⟨h, q⟩ | ⟨h, q⟩ <;> rw [h] <;> unfold wr <;> omega
theorem lcp_eq (x y : Int) : wr (lcp x y) = 0 ↔ wL x = wL y := by
  rcases lcp_cases x y with ⟨h, q⟩ | ⟨h, q⟩ | ⟨h, q⟩ <;> rw [h] <;> unfold wr <;> omega
theorem lcp_le (x y : Int) : wr (lcp x y) ≤ 0 ↔ wL x ≤ wL y := by
  rcases lcp_cases x y with ⟨h, q⟩ | ⟨h, q⟩ | ⟨h, q⟩ <;> rw [h] <;> unfold wr <;> omega
theorem lcp_ge (x y : Int) : 0 ≤ wr (lcp x y) ↔ wL y ≤ wL x := by
  rcases lcp_cases x y with ⟨h, q⟩ | ⟨h, q⟩ | ⟨h, q⟩ <;> rw [h] <;> unfold wr <;> omega
/-- a truth as a number -/
def b2 (p : Prop) [Decidable p] : Int := if p then 1 else 0
theorem b2_t {p : Prop} [Decidable p] (h : p) : b2 p = 1 := if_pos h
theorem b2_f {p : Prop} [Decidable p] (h : ¬ p) : b2 p = 0 := if_neg h
theorem b2_01 (p : Prop) [Decidable p] : b2 p = 0 ∨ b2 p = 1 := by
  by_cases h : p
  · exact Or.inr (b2_t h)
  · exact Or.inl (b2_f h)
theorem b2_w0 (p : Prop) [Decidable p] : wr (b2 p) = 0 ↔ ¬ p := by
  by_cases h : p
  · rw [b2_t h]; unfold wr; simp [h]
  · rw [b2_f h]; unfold wr; simp [h]
theorem b2_eq {p q : Prop} [Decidable p] [Decidable q] (h : p ↔ q) : b2 p = b2 q := by
  by_cases a : p
  · rw [b2_t a, b2_t (h.mp a)]
  · rw [b2_f a, b2_f (fun z => a (h.mpr z))]
/-- one place of a row -/
def uA (f : Int → Int) (i v : Int) : Int → Int := fun k => if k = i then v else f k
theorem uA_s (f : Int → Int) (i v : Int) : uA f i v i = v := if_pos rfl
theorem uA_n (f : Int → Int) {i v k : Int} (h : ¬ k = i) : uA f i v k = f k := if_neg h
theorem updM_o (σ : Mem) {o o' j : Nat} {i v : Int} (h : ¬ o' = o) : updM σ o j i v o' = σ o' := by
  funext j' i'
  exact upd_other (Or.inl h)
theorem updM_j (σ : Mem) {o j j' : Nat} {i v : Int} (h : ¬ j' = j) : updM σ o j i v o j' = σ o j' := by
  funext i'
  exact upd_other (Or.inr h)
theorem updM_oj (σ : Mem) {o o' j j' : Nat} {i v : Int} (h : ¬ o' = o ∨ ¬ j' = j) : updM σ o j i v o' j' = σ o' j' := by
  funext i'
  exact upd_other h
theorem updM_s (σ : Mem) {o j : Nat} {i v : Int} : updM σ o j i v o j = uA (σ o j) i v := by
  funext i'
  unfold updM uA
  by_cases h : i' = i
  · rw [if_pos h, if_pos ⟨rfl, rfl, h⟩]
  · rw [if_neg h, if_neg (fun q => h q.2.2)]
/-- up a loop -/
theorem ind_up {P : Int → Prop} (n : Int) (h : ∀ i, (i < n → P (i + 1)) → P i) (i : Int) : P i := by
  have key : ∀ (k : Nat) (i : Int), (n - i).toNat ≤ k → P i := by
    intro k
    induction k with
    | zero => exact fun i hi => h i (fun q => by omega)
    | succ k ih => exact fun i hi => h i (fun q => ih (i + 1) (by omega))
  exact key _ i (Nat.le_refl _)
theorem ind_dn {P : Int → Prop} (n : Int) (h : ∀ i, (n < i → P (i - 1)) → P i) (i : Int) : P i := by
  have key : ∀ (k : Nat) (i : Int), (i - n).toNat ≤ k → P i := by
    intro k
    induction k with
    | zero => exact fun i hi => h i (fun q => by omega)
    | succ k ih => exact fun i hi => h i (fun q => ih (i - 1) (by omega))
  exact key _ i (Nat.le_refl _)
/-- what a method leaves as it was: objects; an object's rows -/
def FrO (S : Nat → Prop) (s s' : Mem) : Prop := ∀ o, ¬ S o → s' o = s o
def FrJ (o : Nat) (S : Nat → Prop) (s s' : Mem) : Prop := (∀ o', ¬ o' = o → s' o' = s o') ∧ ∀ j, ¬ S j → s' o j = s o j
theorem FrO.rf {S : Nat → Prop} {s : Mem} : FrO S s s := fun _ _ => rfl
theorem FrJ.rf {o : Nat} {S : Nat → Prop} {s : Mem} : FrJ o S s s := ⟨fun _ _ => rfl, fun _ _ => rfl⟩
theorem FrO.tr {S : Nat → Prop} {s t u : Mem} (h : FrO S s t) (h2 : FrO S t u) : FrO S s u := fun o ho => (h2 o ho).trans (h o ho)
theorem FrJ.tr {o : Nat} {S : Nat → Prop} {s t u : Mem} (h : FrJ o S s t) (h2 : FrJ o S t u) : FrJ o S s u := ⟨fun a ha => (h2.1 a ha).trans (h.1 a ha), fun j hj => (h2.2 j hj).trans (h.2 j hj)⟩
theorem FrO.mono {S S' : Nat → Prop} {s t : Mem} (h : FrO S s t) (hs : ∀ o, S o → S' o) : FrO S' s t := fun o ho => h o (fun q => ho (hs o q))
theorem FrJ.mono {o : Nat} {S S' : Nat → Prop} {s t : Mem} (h : FrJ o S s t) (hs : ∀ j, S j → S' j) : FrJ o S' s t := ⟨h.1, fun j hj => h.2 j (fun q => hj (hs j q))⟩
theorem FrJ.toO {o : Nat} {S : Nat → Prop} {s t : Mem} (h : FrJ o S s t) : FrO (fun a => a = o) s t := h.1
theorem FrJ.upd {o j : Nat} {S : Nat → Prop} {s : Mem} {i v : Int} (hs : S j) : FrJ o S s (updM s o j i v) := ⟨fun _ h => updM_o s h, fun j' h => updM_j s (fun q => h (by rw [q]; exact hs))⟩
theorem FrO.upd {o j : Nat} {S : Nat → Prop} {s : Mem} {i v : Int} (hs : S o) : FrO S s (updM s o j i v) := fun o' h => updM_o s (fun q => h (by rw [q]; exact hs))
/-! ===== small ones ===== -/
theorem p_md_in {a b c : Int} {s : Mem} {Q : Int → Mem → Prop} (h : Q (b2 (wL b ≤ wL a ∧ wL a ≤ wL c)) s) : W_md_in a b c s Q := by
  refine w_md_in (b_md_in_0 ⟨fun c1 => ?_, fun c1 => ⟨fun c2 => ?_, fun c2 => ?_⟩⟩)
  · rw [lcp_lt] at c1
    rw [b2_f (by omega)] at h
    exact ⟨Or.inl rfl, h⟩
  · rw [lcp_lt] at c1
    rw [lcp_gt] at c2
    rw [b2_f (by omega)] at h
    exact ⟨Or.inl rfl, h⟩
  · rw [lcp_lt] at c1
    rw [lcp_gt] at c2
    rw [b2_t (by omega)] at h
    exact ⟨Or.inr rfl, h⟩
theorem p_ce_within {a b c : Int} {s : Mem} {Q : Int → Mem → Prop} (h : Q (b2 (wr b ≤ wr a ∧ wr a ≤ wr c)) s) : W_ce_within a b c s Q := by
  refine w_ce_within (b_ce_within_0 ⟨fun c1 => ?_, fun c1 => ⟨fun c2 => ?_, fun c2 => ?_⟩⟩)
  · rw [b2_f (by omega)] at h
    exact ⟨Or.inl rfl, h⟩
  · rw [b2_f (by omega)] at h
    exact ⟨Or.inl rfl, h⟩
  · rw [b2_t (by omega)] at h
    exact ⟨Or.inr rfl, h⟩
