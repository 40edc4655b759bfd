/-! ===== the WORDS, and which BALE ===== -/
def wdS (S : Nat → Int → Int) (d b n : Int) : Int → Int := fun k =>
  if k = 0 then S 0 b else if k = 1 then n else if k = 2 then max 0 (S 0 b - n - S 8 0) else if k = 3 then ((cnL b n (clL (S 5) (S 6) (S 7 0).toNat) : Nat) : Int) else if k = 4 then S 1 b else if k = 5 then S 2 b else if k = 6 then S 3 b else if k = 7 then b else wr d
theorem wd9_of {f : Int → Int} {S : Nat → Int → Int} {d b n : Int} (h0 : f 0 = S 0 b) (h1 : f 1 = n) (h2 : f 2 = max 0 (S 0 b - n - S 8 0)) (h3 : f 3 = ((cnL b n (clL (S 5) (S 6) (S 7 0).toNat) : Nat) : Int)) (h4 : f 4 = S 1 b) (h5 : f 5 = S 2 b) (h6 : f 6 = S 3 b) (h7 : f 7 = b) (h8 : f 8 = wr d) : wd9 f (wdS S d b n) := by
  intro k k0 k1
  unfold wdS
  rcases (show k = 0 ∨ k = 1 ∨ k = 2 ∨ k = 3 ∨ k = 4 ∨ k = 5 ∨ k = 6 ∨ k = 7 ∨ k = 8 by omega) with q | q | q | q | q | q | q | q | q <;> subst q
  · rw [if_pos rfl]; exact h0
  · rw [if_neg (by decide), if_pos rfl]; exact h1
  · rw [if_neg (by decide), if_neg (by decide), if_pos rfl]; exact h2
  · rw [if_neg (by decide), if_neg (by decide), if_neg (by decide), if_pos rfl]; exact h3
  · rw [if_neg (by decide), if_neg (by decide), if_neg (by decide), if_neg (by decide), if_pos rfl]; exact h4
  · rw [if_neg (by decide), if_neg (by decide), if_neg (by decide), if_neg (by decide), if_neg (by decide), if_pos rfl]; exact h5
  · rw [if_neg (by decide), if_neg (by decide), if_neg (by decide), if_neg (by decide), if_neg (by decide), if_neg (by decide), if_pos rfl]; exact h6
  · rw [if_neg (by decide), if_neg (by decide), if_neg (by decide), if_neg (by decide), if_neg (by decide), if_neg (by decide), if_neg (by decide), if_pos rfl]; exact h7
  · rw [if_neg (by decide), if_neg (by decide), if_neg (by decide), if_neg (by decide), if_neg (by decide), if_neg (by decide), if_neg (by decide), if_neg (by decide)]; exact h8
theorem cnL_le (b n : Int) (f g : Int → Int) : ∀ m : Nat, cnL b n (clL f g m) ≤ m
  | 0 => by rw [clL_zero, cnL_nil]; exact Nat.le_refl _
  | m + 1 => by
    rw [clL_succ, cnL_app]
    have := cnL_le b n f g m
    split <;> omega
theorem p_sd_setWords {o : Nat} {b n : Int} {s : Mem} {M : Nat → Int → Int} {Q : Mem → Prop} (ho : cls o = 7) (hR : RSh (s (o + 1)) M) (hb : 0 ≤ b ∧ b < M 0 0) (hn : 1 ≤ n ∧ n ≤ 480)
    (h : ∀ t, FrJ o (fun j => j = 13) s t → wd9 (t o 13) (wdS (s (o + 1)) (s o 11 0) b n) → Q t) : W_sd_setWords o b n s Q := by
  have h1 := hR.1.1
  obtain ⟨⟨g1, g2, g3⟩, ⟨w1, w2, w3⟩, ⟨l1, l2, l3⟩, p1, p2, p3⟩ := hR.1.2.2 b hb.1 hb.2
  obtain ⟨⟨t1, t2, t3⟩, -⟩ := hR.2.2.1
  obtain ⟨v1, v2⟩ := RSh_vals hR
  have wb : wr b = b := wr_id (by omega) (by omega)
  have wn : wr n = n := wr_id (by omega) (by omega)
  have hcn := cnL_le b n (s (o + 1) 5) (s (o + 1) 6) (s (o + 1) 7 0).toNat
  refine w_sd_setWords (b_sd_setWords_0 ho ?_)
  unfold T_sd_setWords_0
  rw [wb, wn]
  refine ⟨by omega, fun s1 x1 s2 x2 => ?_⟩
  obtain ⟨a1, a2, a3⟩ := updM_f x1
  obtain ⟨b1, b2, b3⟩ := updM_f x2
  have q2 : s2 (o + 1) = s (o + 1) := (b1 _ (by omega)).trans (a1 _ (by omega))
  refine p_sh_restBehind (cs7_0 ho) (by omega) (by rw [q2]; omega) (fun s5 x5 => ?_)
  rw [q2, wr_id (x := max 0 (s (o + 1) 0 b - n - s (o + 1) 8 0)) (by omega) (by omega)] at x5
  obtain ⟨c1, c2, c3⟩ := updM_f x5
  have q5 : s5 (o + 1) = s (o + 1) := (c1 _ (by omega)).trans q2
  refine p_sh_flawsWithin (cs7_0 ho) (by rw [q5]; exact v1) wb wn (by rw [q5]; exact v2) (fun s8 x8 => ⟨by omega, fun s9 x9 => ⟨by omega, fun s10 x10 => ⟨by omega, fun s11 x11 s12 x12 s13 x13 => ?_⟩⟩⟩)
  rw [q5, wr_id (x := ((cnL b n (clL (s (o + 1) 5) (s (o + 1) 6) (s (o + 1) 7 0).toNat) : Nat) : Int)) (by omega) (by omega)] at x8
  obtain ⟨d1, d2, d3⟩ := updM_f x8
  have q8 : s8 (o + 1) = s (o + 1) := (d1 _ (by omega)).trans q5
  rw [q8, wr_id (x := s (o + 1) 1 b) (by omega) (by omega)] at x9
  obtain ⟨e1, e2, e3⟩ := updM_f x9
  have q9 : s9 (o + 1) = s (o + 1) := (e1 _ (by omega)).trans q8
  rw [q9, wr_id (x := s (o + 1) 2 b) (by omega) (by omega)] at x10
  obtain ⟨f1, f2, f3⟩ := updM_f x10
  have q10 : s10 (o + 1) = s (o + 1) := (f1 _ (by omega)).trans q9
  rw [q10, wr_id (x := s (o + 1) 3 b) (by omega) (by omega)] at x11
  obtain ⟨i1, i2, i3⟩ := updM_f x11
  obtain ⟨k1, k2, k3⟩ := updM_f x12
  have q12 : s12 o 11 = s o 11 := by rw [k2 11 (by omega), i2 11 (by omega), f2 11 (by omega), e2 11 (by omega), d2 11 (by omega), c2 11 (by omega), b2 11 (by omega), a2 11 (by omega)]
  rw [q12] at x13
  obtain ⟨m1, m2, m3⟩ := updM_f x13
  have z : s13 o 13 = uA (uA (uA (uA (uA (uA (uA (uA (uA (s o 13) 0 (wr (s (o + 1) 0 b))) 1 n) 2 (max 0 (s (o + 1) 0 b - n - s (o + 1) 8 0))) 3 ((cnL b n (clL (s (o + 1) 5) (s (o + 1) 6) (s (o + 1) 7 0).toNat) : Nat) : Int)) 4 (s (o + 1) 1 b)) 5 (s (o + 1) 2 b)) 6 (s (o + 1) 3 b)) 7 b) 8 (wr (s o 11 0)) := by rw [m3, k3, i3, f3, e3, d3, c3, b3, a3]
  refine h s13 ⟨fun o' q => by rw [m1 o' q, k1 o' q, i1 o' q, f1 o' q, e1 o' q, d1 o' q, c1 o' q, b1 o' q, a1 o' q], fun j q => by rw [m2 j q, k2 j q, i2 j q, f2 j q, e2 j q, d2 j q, c2 j q, b2 j q, a2 j q]⟩ ?_
  rw [z]
  refine wd9_of ?_ ?_ ?_ ?_ ?_ ?_ ?_ ?_ ?_
  · rw [uA_n _ (by decide), uA_n _ (by decide), uA_n _ (by decide), uA_n _ (by decide), uA_n _ (by decide), uA_n _ (by decide), uA_n _ (by decide), uA_n _ (by decide), uA_s]
    exact wr_id (by omega) (by omega)
  · rw [uA_n _ (by decide), uA_n _ (by decide), uA_n _ (by decide), uA_n _ (by decide), uA_n _ (by decide), uA_n _ (by decide), uA_n _ (by decide), uA_s]
  · rw [uA_n _ (by decide), uA_n _ (by decide), uA_n _ (by decide), uA_n _ (by decide), uA_n _ (by decide), uA_n _ (by decide), uA_s]
  · rw [uA_n _ (by decide), uA_n _ (by decide), uA_n _ (by decide), uA_n _ (by decide), uA_n _ (by decide), uA_s]
  · rw [uA_n _ (by decide), uA_n _ (by decide), uA_n _ (by decide), uA_n _ (by decide), uA_s]
  · rw [uA_n _ (by decide), uA_n _ (by decide), uA_n _ (by decide), uA_s]
  · rw [uA_n _ (by decide), uA_n _ (by decide), uA_s]
  · rw [uA_n _ (by decide), uA_s]
  · rw [uA_s]
theorem p_md_asks {b n : Int} {s : Mem} {S : Nat → Int → Int} {Q : Mem → Prop} (hR : RSh S (MM s)) (hb : 0 ≤ b ∧ b < s 34 2 0) (hn : 1 ≤ n ∧ n ≤ 480)
    (h : ∀ t, FrJ 34 (fun j => j = 52) s t → wd9 (t 34 52) (wdS S (s 34 2 13) b n) → Q t) : W_md_asks b n s Q := by
  have h1 : 0 ≤ s 34 2 0 ∧ s 34 2 0 ≤ 12 := hR.1.1
  obtain ⟨⟨g1, g2, g3⟩, ⟨w1, w2, w3⟩, ⟨l1, l2, l3⟩, p1, p2, p3⟩ := hR.1.2.2 b hb.1 hb.2
  have g1 : S 0 b = s 34 3 b := g1
  have g2 : 0 ≤ s 34 3 b := g2
  have g3 : s 34 3 b ≤ 480 := g3
  have w1 : S 1 b = s 34 4 b := w1
  have w2 : 1 ≤ s 34 4 b := w2
  have w3 : s 34 4 b ≤ 99 := w3
  have l1 : S 2 b = s 34 5 b := l1
  have l2 : 0 ≤ s 34 5 b := l2
  have l3 : s 34 5 b ≤ 9 := l3
  have p1 : S 3 b = s 34 6 b := p1
  have p2 : 0 ≤ s 34 6 b := p2
  have p3 : s 34 6 b ≤ 96 := p3
  obtain ⟨⟨t1, t2, t3⟩, -⟩ := hR.2.2.1
  have t1 : S 8 0 = s 34 2 2 := t1
  have t2 : 0 ≤ s 34 2 2 := t2
  have t3 : s 34 2 2 ≤ 8 := t3
  obtain ⟨v1, v2⟩ := RSh_mvals hR
  have v1 : 0 ≤ s 34 2 1 ∧ s 34 2 1 ≤ 16 := v1
  have v2 : ∀ k, 0 ≤ k → k < s 34 2 1 → (-1 ≤ s 34 7 k ∧ s 34 7 k ≤ 1000) ∧ (-1 ≤ s 34 8 k ∧ s 34 8 k ≤ 1000) := v2
  have wb : wr b = b := wr_id (by omega) (by omega)
  have wn : wr n = n := wr_id (by omega) (by omega)
  have ecl : clL (S 5) (S 6) (S 7 0).toNat = flL (s 34 7) (s 34 8) (s 34 2 1).toNat := hR.2.1.2.2.1
  have hS7 := hR.2.1.1
  have hcn := cnL_le b n (S 5) (S 6) (S 7 0).toNat
  refine w_md_asks (b_md_asks_0 ?_)
  unfold T_md_asks_0
  rw [wb, wn]
  refine ⟨by omega, fun s1 x1 s2 x2 => ⟨by omega, by omega, ?_⟩⟩
  obtain ⟨a1, a2, a3⟩ := updM_f x1
  obtain ⟨b1, b2, b3⟩ := updM_f x2
  have q2 : ∀ j, ¬ j = 52 → s2 34 j = s 34 j := fun j hj => (b2 j hj).trans (a2 j hj)
  rw [q2 3 (by omega), q2 2 (by omega)]
  refine p_md_taken ⟨by omega, by omega⟩ ⟨by omega, by omega⟩ (fun s5 x5 => ?_)
  have et : s 34 3 b - tkn (s 34 3 b) n (s 34 2 2) = max 0 (S 0 b - n - S 8 0) := by
    unfold tkn
    split <;> omega
  rw [et, wr_id (x := max 0 (S 0 b - n - S 8 0)) (by omega) (by omega)] at x5
  obtain ⟨c1, c2, c3⟩ := updM_f x5
  have q5 : ∀ j, ¬ j = 52 → s5 34 j = s 34 j := fun j hj => (c2 j hj).trans (q2 j hj)
  refine p_md_flawsIn (by rw [q5 2 (by omega)]; exact v1) wb (by omega) (by rw [q5 2 (by omega), q5 7 (by omega), q5 8 (by omega)]; exact v2) (fun s8 x8 => ⟨by omega, fun s9 x9 => ⟨by omega, fun s10 x10 => ⟨by omega, fun s11 x11 s12 x12 s13 x13 => ?_⟩⟩⟩)
  rw [q5 2 (by omega), q5 7 (by omega), q5 8 (by omega), ← ecl, wr_id (x := ((cnL b n (clL (S 5) (S 6) (S 7 0).toNat) : Nat) : Int)) (by omega) (by omega)] at x8
  obtain ⟨d1, d2, d3⟩ := updM_f x8
  have q8 : ∀ j, ¬ j = 52 → s8 34 j = s 34 j := fun j hj => (d2 j hj).trans (q5 j hj)
  rw [q8 4 (by omega), ← w1, wr_id (x := S 1 b) (by omega) (by omega)] at x9
  obtain ⟨e1, e2, e3⟩ := updM_f x9
  have q9 : ∀ j, ¬ j = 52 → s9 34 j = s 34 j := fun j hj => (e2 j hj).trans (q8 j hj)
  rw [q9 5 (by omega), ← l1, wr_id (x := S 2 b) (by omega) (by omega)] at x10
  obtain ⟨f1, f2, f3⟩ := updM_f x10
  have q10 : ∀ j, ¬ j = 52 → s10 34 j = s 34 j := fun j hj => (f2 j hj).trans (q9 j hj)
  rw [q10 6 (by omega), ← p1, wr_id (x := S 3 b) (by omega) (by omega)] at x11
  obtain ⟨i1, i2, i3⟩ := updM_f x11
  obtain ⟨k1, k2, k3⟩ := updM_f x12
  have q12 : ∀ j, ¬ j = 52 → s12 34 j = s 34 j := fun j hj => (k2 j hj).trans ((i2 j hj).trans (q10 j hj))
  rw [q12 2 (by omega)] at x13
  obtain ⟨m1, m2, m3⟩ := updM_f x13
  have z : s13 34 52 = uA (uA (uA (uA (uA (uA (uA (uA (uA (s 34 52) 0 (wr (s 34 3 b))) 1 n) 2 (max 0 (S 0 b - n - S 8 0))) 3 ((cnL b n (clL (S 5) (S 6) (S 7 0).toNat) : Nat) : Int)) 4 (S 1 b)) 5 (S 2 b)) 6 (S 3 b)) 7 b) 8 (wr (s 34 2 13)) := by rw [m3, k3, i3, f3, e3, d3, c3, b3, a3]
  refine h s13 ⟨fun o' q => by rw [m1 o' q, k1 o' q, i1 o' q, f1 o' q, e1 o' q, d1 o' q, c1 o' q, b1 o' q, a1 o' q], fun j q => by rw [m2 j q, k2 j q, i2 j q, f2 j q, e2 j q, d2 j q, c2 j q, b2 j q, a2 j q]⟩ ?_
  rw [z]
  refine wd9_of ?_ ?_ ?_ ?_ ?_ ?_ ?_ ?_ ?_
  · rw [uA_n _ (by decide), uA_n _ (by decide), uA_n _ (by decide), uA_n _ (by decide), uA_n _ (by decide), uA_n _ (by decide), uA_n _ (by decide), uA_n _ (by decide), uA_s, g1]
    exact wr_id (by omega) (by omega)
  · rw [uA_n _ (by decide), uA_n _ (by decide), uA_n _ (by decide), uA_n _ (by decide), uA_n _ (by decide), uA_n _ (by decide), uA_n _ (by decide), uA_s]
  · rw [uA_n _ (by decide), uA_n _ (by decide), uA_n _ (by decide), uA_n _ (by decide), uA_n _ (by decide), uA_n _ (by decide), uA_s]
  · rw [uA_n _ (by decide), uA_n _ (by decide), uA_n _ (by decide), uA_n _ (by decide), uA_n _ (by decide), uA_s]
  · rw [uA_n _ (by decide), uA_n _ (by decide), uA_n _ (by decide), uA_n _ (by decide), uA_s]
  · rw [uA_n _ (by decide), uA_n _ (by decide), uA_n _ (by decide), uA_s]
  · rw [uA_n _ (by decide), uA_n _ (by decide), uA_s]
  · rw [uA_n _ (by decide), uA_s]
  · rw [uA_s]
/-! which BALE -/
def cf1 (R S : Nat → Int → Int) (d n i : Int) : Int := cfo R (wdS S d i n) (R 6 0).toNat 0
def sm1 (R S : Nat → Int → Int) (d n i : Int) : Int := ev1 (R 0) (wdS S d i n) (R 3 (cf1 R S d n i)) (R 4 (cf1 R S d n i))
def bbl (R S : Nat → Int → Int) (d n : Int) : Nat → Int → Int → Int → Int
  | 0, _, b, _ => b
  | k + 1, i, b, l => if S 0 i < n then bbl R S d n k (i + 1) b l else if cf1 R S d n i = -1 then bbl R S d n k (i + 1) b l else if b = -1 ∨ wL (sm1 R S d n i) < wL l then bbl R S d n k (i + 1) i (sm1 R S d n i) else bbl R S d n k (i + 1) b l
theorem bbl_1 (R S : Nat → Int → Int) (d n : Int) (k : Nat) (i b l : Int) : bbl R S d n (k + 1) i b l = if S 0 i < n then bbl R S d n k (i + 1) b l else if cf1 R S d n i = -1 then bbl R S d n k (i + 1) b l else if b = -1 ∨ wL (sm1 R S d n i) < wL l then bbl R S d n k (i + 1) i (sm1 R S d n i) else bbl R S d n k (i + 1) b l := rfl
theorem bbl_bd (R S : Nat → Int → Int) (d n : Int) : ∀ (k : Nat) (i b l : Int), 0 ≤ i → (b = -1 ∨ ((0 ≤ b ∧ b < i + k) ∧ n ≤ S 0 b)) → (bbl R S d n k i b l = -1 ∨ ((0 ≤ bbl R S d n k i b l ∧ bbl R S d n k i b l < i + k) ∧ n ≤ S 0 (bbl R S d n k i b l)))
  | 0, i, b, l, _, h => by
    unfold bbl
    exact h
  | k + 1, i, b, l, h0, h => by
    have e : i + ((k + 1 : Nat) : Int) = i + 1 + (k : Int) := by omega
    rw [e] at h ⊢
    unfold bbl
    split
    · exact bbl_bd R S d n k (i + 1) b l (by omega) h
    · next c =>
      split
      · exact bbl_bd R S d n k (i + 1) b l (by omega) h
      · split
        · exact bbl_bd R S d n k (i + 1) i _ (by omega) (Or.inr ⟨by omega, by omega⟩)
        · exact bbl_bd R S d n k (i + 1) b l (by omega) h
