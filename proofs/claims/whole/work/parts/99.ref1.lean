/-! ===== RULE: what waits, at the reference ===== -/
def puK (k : Int) : List Int → List Int
  | [] => []
  | x :: r => if x = k then puK k r else x :: r
def enK (k : Int) : List Int → List (Int × Int)
  | [] => []
  | x :: r => if x = k then (k, 0) :: enK k r else []
theorem puN_K : ∀ l : List Int, puN l = puK 12 l ∧ enN l = enK 12 l
  | [] => ⟨rfl, rfl⟩
  | x :: r => by
    unfold puN puK enN enK
    by_cases q : x = 12
    · rw [if_pos q, if_pos q, if_pos q, if_pos q, (puN_K r).1, (puN_K r).2]
      exact ⟨rfl, rfl⟩
    · rw [if_neg q, if_neg q, if_neg q, if_neg q]
      exact ⟨rfl, rfl⟩
theorem puS_K : ∀ l : List Int, puS false l = puK 13 l ∧ enS false l = enK 13 l
  | [] => ⟨rfl, rfl⟩
  | x :: r => by
    unfold puS puK enS enK
    by_cases q : x = 13
    · rw [if_pos (Or.inl q), if_pos q, if_pos (Or.inl q), if_pos q, (puS_K r).1, (puS_K r).2]
      subst q
      exact ⟨rfl, rfl⟩
    · have hn : ¬ (x = 13 ∨ (false = true ∧ x = 14)) := fun z => z.elim q (fun w => absurd w.1 (by decide))
      rw [if_neg hn, if_neg q, if_neg hn, if_neg q]
      exact ⟨rfl, rfl⟩
def rl (l : List Int) : List Int := l.map (fun x => x - 3)
def RT (v : Mem) (l : List Int) : Prop := v 34 40 0 = (l.length : Int) ∧ v 34 38 0 = dep l ∧ stk (v 34 51) (rl l)
theorem rl_len (l : List Int) : (rl l).length = l.length := List.length_map _
/-- rows that a TEST may change -/
def rwJ (j : Nat) : Prop := j = 33 ∨ j = 34 ∨ (37 ≤ j ∧ j ≤ 40) ∨ j = 44 ∨ j = 45 ∨ j = 51
theorem p_md_top {v : Mem} {l : List Int} {Q : Int → Mem → Prop} (hR : RT v l) (hl : (l.length : Int) ≤ 100) (h : Q (match l with | [] => -1 | x :: _ => x - 3) v) : W_md_top v Q := by
  obtain ⟨r1, r2, r3⟩ := hR
  refine w_md_top (b_md_top_0 ?_)
  unfold T_md_top_0 T_md_top_11 T_md_top_22
  cases l with
  | nil =>
    have r1 : v 34 40 0 = ((0 : Nat) : Int) := r1
    rw [r1]
    exact br_f (by decide) h
  | cons x r =>
    rw [List.length_cons] at r1 hl
    have r3 : v 34 51 ((rl r).length : Int) = x - 3 ∧ stk (v 34 51) (rl r) := r3
    rw [rl_len] at r3
    rw [r1, wr_id (x := ((r.length + 1 : Nat) : Int)) (by omega) (by omega), wr_id (x := ((r.length + 1 : Nat) : Int) - 1) (by omega) (by omega), show ((r.length + 1 : Nat) : Int) - 1 = (r.length : Int) by omega, r3.1]
    exact br_t (by omega) ⟨by omega, h⟩
