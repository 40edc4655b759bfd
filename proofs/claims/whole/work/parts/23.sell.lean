theorem mem_clL {f g : Int → Int} {n : Nat} {k : Int} (h0 : 0 ≤ k) (h : k.toNat < n) : (f k, g k) ∈ clL f g n := List.mem_map.mpr ⟨k.toNat, List.mem_range.mpr h, by rw [ei_nat h0]⟩
theorem of_mem_flL {f g : Int → Int} {n : Nat} {q : Int × Int} (h : q ∈ flL f g n) : ∃ k : Int, 0 ≤ k ∧ k < n ∧ q = (f k, g k) ∧ ¬ g k = -1 := by
  obtain ⟨k, hk, he⟩ := List.mem_filterMap.mp h
  by_cases c : g (k : Int) = -1
  · rw [if_pos c] at he; cases he
  · rw [if_neg c] at he
    cases he
    exact ⟨k, by omega, by have := List.mem_range.mp hk; omega, rfl, c⟩
theorem Flw_vals {S M : Nat → Int → Int} (h : Flw S M) : ∀ k, 0 ≤ k → k < S 7 0 → (0 ≤ S 5 k ∧ S 5 k < M 0 0) ∧ (0 ≤ S 6 k ∧ S 6 k < M 1 (S 5 k)) := by
  intro k h0 h1
  obtain ⟨a1, a2, a3, a4⟩ := h
  have hm : (S 5 k, S 6 k) ∈ clL (S 5) (S 6) (S 7 0).toNat := mem_clL h0 (by omega)
  rw [a3] at hm
  obtain ⟨k', b1, b2, b3, b4⟩ := of_mem_flL hm
  obtain ⟨c1, c2, c3, c4⟩ := a4 k' b1 (by omega)
  have e1 : S 5 k = M 5 k' := congrArg Prod.fst b3
  have e2 : S 6 k = M 6 k' := congrArg Prod.snd b3
  rw [e1, e2]
  exact ⟨⟨c1, c2⟩, by omega, c4⟩
theorem mfld_ne {a j : Nat} (h : ¬ mfld a = j) {s t : Mem} {S : Nat → Prop} (hF : FrJ 34 S s t) (hS : ¬ S (mfld a)) : MM t a = MM s a := hF.2 _ hS
/-- a Shop's rows behind n EIGHTHS of b being taken; the reference's -/
def ShrC (S S' : Nat → Int → Int) (b n : Int) : Prop := S' 0 = uA (S 0) b (S 0 b - n) ∧ (0 ≤ S' 7 0 ∧ S' 7 0 ≤ S 7 0) ∧ clL (S' 5) (S' 6) (S' 7 0).toNat = shL b n (clL (S 5) (S 6) (S 7 0).toNat) ∧ ∀ j, ¬ (j = 0 ∨ j = 5 ∨ j = 6 ∨ j = 7) → S' j = S j
def ShrM (M M' : Nat → Int → Int) (b n : Int) : Prop := M' 1 = uA (M 1) b (M 1 b - n) ∧ (∀ k, 0 ≤ k → k < M 0 1 → M' 6 k = if M 5 k = b ∧ ¬ M 6 k = -1 then (if M 6 k < n then -1 else M 6 k - n) else M 6 k) ∧ flL (M' 5) (M' 6) (M' 0 1).toNat = shL b n (flL (M 5) (M 6) (M 0 1).toNat) ∧ ∀ a, ¬ (a = 1 ∨ a = 6) → M' a = M a
theorem RSh_shr {S S' M M' : Nat → Int → Int} {b n : Int} (h : RSh S M) (hc : ShrC S S' b n) (hm : ShrM M M' b n) (hb : 0 ≤ b ∧ b < M 0 0) (hn : 0 ≤ n ∧ n ≤ M 1 b) : RSh S' M' := by
  obtain ⟨⟨a1, a2, a3⟩, ⟨f1, f2, f3, f4⟩, hs, hf⟩ := h
  obtain ⟨c1, c2, c3, c4⟩ := hc
  obtain ⟨m1, m2, m3, m4⟩ := hm
  have e0 : M' 0 = M 0 := m4 0 (by omega)
  have k4 : S' 4 = S 4 := c4 4 (by omega)
  refine ⟨⟨by rw [e0]; exact a1, by rw [k4, e0]; exact a2, fun q q0 q1 => ?_⟩, ⟨by omega, by rw [e0]; exact f2, by rw [c3, f3, m3], fun k k0 k1 => ?_⟩, ?_, ?_⟩
  · rw [e0] at q1
    obtain ⟨⟨g1, g2, g3⟩, g4, g5, g6⟩ := a3 q q0 q1
    rw [c4 1 (by omega), c4 2 (by omega), c4 3 (by omega), m4 2 (by omega), m4 3 (by omega), m4 4 (by omega), c1, m1]
    refine ⟨?_, g4, g5, g6⟩
    by_cases e : q = b
    · subst e
      rw [uA_s, uA_s]
      omega
    · rw [uA_n _ e, uA_n _ e]
      exact ⟨g1, g2, g3⟩
  · rw [e0] at k1 ⊢
    obtain ⟨g1, g2, g3, g4⟩ := f4 k k0 k1
    rw [m4 5 (by omega), m2 k k0 k1, m1]
    refine ⟨g1, g2, ?_⟩
    by_cases e : M 5 k = b
    · rw [e, uA_s]
      by_cases e2 : M 6 k = -1
      · rw [if_neg (fun z => z.2 e2), e2]
        omega
      · rw [if_pos ⟨rfl, e2⟩]
        rw [e] at g4
        by_cases e3 : M 6 k < n
        · rw [if_pos e3]
          omega
        · rw [if_neg e3]
          omega
    · rw [if_neg (fun z => e z.1), uA_n _ e]
      exact ⟨g3, g4⟩
  · unfold Sca at hs ⊢
    rw [e0, c4 8 (by omega), c4 9 (by omega), c4 10 (by omega), c4 15 (by omega), c4 16 (by omega)]
    exact hs
  · unfold Frm at hf ⊢
    rw [e0, c4 14 (by omega), c4 11 (by omega), c4 12 (by omega), c4 13 (by omega), m4 7 (by omega), m4 8 (by omega), m4 9 (by omega)]
    exact hf
theorem p_sh_restBehind {o : Nat} {b n m : Int} {s : Mem} {Q : Int → Mem → Prop} (ho : cls o = 5) (hb : 0 ≤ b ∧ b < 12) (h : -1000 ≤ s o 0 b - n - m ∧ s o 0 b - n - m ≤ 1000) (hQ : Q (max 0 (s o 0 b - n - m)) s) : W_sh_restBehind o b n m s Q := by
  refine w_sh_restBehind (b_sh_restBehind_0 ho ?_)
  unfold T_sh_restBehind_0
  rw [wr_id (x := b) (by omega) (by omega)]
  refine ⟨hb, ?_⟩
  rw [wr_id (x := s o 0 b - n - m) (by omega) (by omega)]
  exact hQ
theorem RSh_vals {S M : Nat → Int → Int} (h : RSh S M) : (0 ≤ S 7 0 ∧ S 7 0 ≤ 16) ∧ ∀ k, 0 ≤ k → k < S 7 0 → wr (S 5 k) = S 5 k ∧ wr (S 6 k) = S 6 k := by
  refine ⟨h.2.1.1, fun k k0 k1 => ?_⟩
  obtain ⟨⟨a1, a2⟩, a3, a4⟩ := Flw_vals h.2.1 k k0 k1
  have b1 := h.1.1
  obtain ⟨⟨c1, c2, c3⟩, -⟩ := h.1.2.2 (S 5 k) a1 a2
  exact ⟨wr_id (by omega) (by omega), wr_id (by omega) (by omega)⟩
theorem RSh_mvals {S M : Nat → Int → Int} (h : RSh S M) : (0 ≤ M 0 1 ∧ M 0 1 ≤ 16) ∧ ∀ k, 0 ≤ k → k < M 0 1 → (-1 ≤ M 5 k ∧ M 5 k ≤ 1000) ∧ (-1 ≤ M 6 k ∧ M 6 k ≤ 1000) := by
  refine ⟨h.2.1.2.1, fun k k0 k1 => ?_⟩
  obtain ⟨a1, a2, a3, a4⟩ := h.2.1.2.2.2 k k0 k1
  have b1 := h.1.1
  obtain ⟨⟨c1, c2, c3⟩, -⟩ := h.1.2.2 (M 5 k) a1 a2
  exact ⟨by omega, by omega⟩
def tkn (e n m : Int) : Int := if e < n + m then e else n + m
theorem p_sd_sellFrom {o : Nat} {b n m : Int} {s : Mem} {M : Nat → Int → Int} {Q : Int → Mem → Prop} (ho : cls o = 7) (hR : RSh (s (o + 1)) M) (hb : 0 ≤ b ∧ b < M 0 0) (hn : 0 ≤ n ∧ n ≤ M 1 b) (hm : 0 ≤ m ∧ m ≤ 100)
    (h : ∀ t, FrO (fun a => a = o ∨ a = o + 1) s t → (∀ j, ¬ (j = 7 ∨ j = 8) → t o j = s o j) → t o 7 0 = s o 7 0 + n → t o 8 0 = s o 8 0 + (tkn (M 1 b) n m - n) → ShrC (s (o + 1)) (t (o + 1)) b (tkn (M 1 b) n m) → Q (cnL b n (clL (s (o + 1) 5) (s (o + 1) 6) (s (o + 1) 7 0).toNat) : Nat) t) : W_sd_sellFrom o b n m s Q := by
  have h1 := hR.1.1
  obtain ⟨⟨g1, g2, g3⟩, -⟩ := hR.1.2.2 b hb.1 hb.2
  obtain ⟨v1, v2⟩ := RSh_vals hR
  have wb : wr b = b := wr_id (by omega) (by omega)
  refine w_sd_sellFrom (b_sd_sellFrom_0 ho ?_)
  unfold T_sd_sellFrom_0
  refine p_sh_flawsWithin (cs7_0 ho) v1 wb (wr_id (by omega) (by omega)) v2 ?_
  rw [wb]
  refine ⟨⟨by omega, by omega⟩, p_sh_restBehind (cs7_0 ho) ⟨by omega, by omega⟩ ⟨by omega, by omega⟩ ?_⟩
  rintro x5 hx5
  have ex : x5 = tkn (M 1 b) n m := by
    rw [hx5, g1]
    unfold tkn
    by_cases q : M 1 b < n + m
    · rw [if_pos q]; omega
    · rw [if_neg q]; omega
  have hx : 0 ≤ x5 ∧ x5 ≤ M 1 b := by
    rw [hx5, g1]
    omega
  refine p_sh_shorten (cs7_0 ho) v1 ⟨by omega, by omega⟩ (wr_id (by omega) (by omega)) v2 ?_
  intro t hF t0 t7 tl
  rintro s7 rfl
  rintro s8 rfl
  have q1 : ∀ j, (updM (updM t o 7 0 (t o 7 0 + n)) o 8 0 ((updM t o 7 0 (t o 7 0 + n)) o 8 0 + (x5 - n))) (o + 1) j = t (o + 1) j := fun j => by rw [updM_o _ (by omega), updM_o _ (by omega)]
  have q2 : t o = s o := hF.1 o (by omega)
  refine h _ ?_ ?_ ?_ ?_ ?_
  · refine FrO.tr (hF.toO.mono (fun a q => Or.inr q)) (FrO.tr (FrO.upd (Or.inl rfl)) (FrO.upd (Or.inl rfl)))
  · intro j hj
    rw [updM_j _ (by omega), updM_j _ (by omega), q2]
  · rw [updM_j _ (by omega), updM_s, uA_s, q2]
  · rw [updM_s, uA_s, updM_j _ (by omega), q2, ex]
  · rw [← ex]
    refine ⟨by rw [q1]; exact t0, by rw [q1]; exact t7, by rw [q1, q1, q1]; exact tl, fun j hj => by rw [q1]; exact hF.2 j hj⟩
theorem p_md_taken {a n m : Int} {s : Mem} {Q : Int → Mem → Prop} (ha : -100000 ≤ a ∧ a ≤ 100000) (hn : -100000 ≤ n + m ∧ n + m ≤ 100000) (h : Q (tkn a n m) s) : W_md_taken a n m s Q := by
  refine w_md_taken (b_md_taken_0 ?_)
  unfold T_md_taken_0 T_md_taken_11 T_md_taken_14
  rw [wr_id (x := n + m) (by omega) (by omega), wr_id (x := a) (by omega) (by omega)]
  unfold tkn at h
  refine ⟨fun c => ?_, fun c => ?_⟩
  · rw [if_neg (by omega)] at h
    exact h
  · rw [if_pos (by omega)] at h
    exact h
theorem mfld_1 : mfld 1 = 3 := rfl
theorem mfld_inj {a a' : Nat} (h : mfld a = mfld a') : a = a' := by
  unfold mfld at h
  split at h <;> split at h <;> omega
theorem ShrM_of {s t : Mem} {b n : Int} (hF : FrJ 34 (fun j => j = 3 ∨ j = 8) s t) (h3 : t 34 3 = uA (s 34 3) b (s 34 3 b - n)) (h8 : ∀ k, 0 ≤ k → k < s 34 2 1 → t 34 8 k = if s 34 7 k = b ∧ ¬ s 34 8 k = -1 then (if s 34 8 k < n then -1 else s 34 8 k - n) else s 34 8 k) (hl : flL (t 34 7) (t 34 8) (t 34 2 1).toNat = shL b n (flL (s 34 7) (s 34 8) (s 34 2 1).toNat)) : ShrM (MM s) (MM t) b n := by
  refine ⟨h3, h8, hl, fun a ha => hF.2 _ (fun q => ha ?_)⟩
  rcases q with q | q
  · exact Or.inl (mfld_inj (q.trans mfld_1.symm))
  · exact Or.inr (mfld_inj (q.trans (show (8 : Nat) = mfld 6 from rfl)))
theorem p_md_takes0M {b n : Int} {s : Mem} {S : Nat → Int → Int} {Q : Mem → Prop} (hR : RSh S (MM s)) (hb : 0 ≤ b ∧ b < 12) (hn : 0 ≤ n ∧ n ≤ 1000) (h : ∀ t, FrJ 34 (fun j => j = 3 ∨ j = 8) s t → ShrM (MM s) (MM t) b n → Q t) : W_md_takes0 b n s Q := by
  obtain ⟨v1, v2⟩ := RSh_mvals hR
  exact p_md_takes0 v1 hb hn v2 (fun t hF h3 h8 hl => h t hF (ShrM_of hF h3 h8 hl))
/-- scalars: sold and lost more -/
theorem p_md_cuts {b n m : Int} {s : Mem} {S : Nat → Int → Int} {Q : Mem → Prop} (hR : RSh S (MM s)) (hb : 0 ≤ b ∧ b < MM s 0 0) (hn : 0 ≤ n ∧ n ≤ MM s 1 b) (hm : 0 ≤ m ∧ m ≤ 100)
    (h : ∀ t u, FrJ 34 (fun j => j = 3 ∨ j = 8) s t → ShrM (MM s) (MM t) b (tkn (MM s 1 b) n m) → u = updM (updM t 34 2 8 (t 34 2 8 + n)) 34 2 9 (t 34 2 9 + (tkn (MM s 1 b) n m - n)) → Q u) : W_md_cuts b n m s Q := by
  have h1 := hR.1.1
  obtain ⟨⟨g1, g2, g3⟩, -⟩ := hR.1.2.2 b hb.1 hb.2
  have wb : wr b = b := wr_id (by omega) (by omega)
  refine w_md_cuts (b_md_cuts_0 ?_)
  unfold T_md_cuts_0
  rw [wb]
  have e3 : s 34 3 b = MM s 1 b := rfl
  rw [e3]
  have ht : 0 ≤ tkn (MM s 1 b) n m ∧ tkn (MM s 1 b) n m ≤ MM s 1 b := by
    unfold tkn
    split <;> omega
  refine ⟨⟨by omega, by omega⟩, p_md_taken ⟨by omega, by omega⟩ ⟨by omega, by omega⟩ (p_md_takes0M hR ⟨by omega, by omega⟩ ⟨by omega, by omega⟩ ?_)⟩
  intro t hF hS
  rintro s4 rfl
  rintro s5 rfl
  refine h t _ hF hS ?_
  rw [updM_s, uA_n _ (by omega)]
