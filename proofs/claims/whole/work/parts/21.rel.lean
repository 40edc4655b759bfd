/-! ===== how the class's store and the reference's hang together ===== -/
def clL (f g : Int → Int) (n : Nat) : List (Int × Int) := (List.range n).map (fun k : Nat => (f (k : Int), g (k : Int)))
def flL (f g : Int → Int) (n : Nat) : List (Int × Int) := (List.range n).filterMap (fun k : Nat => if g (k : Int) = -1 then none else some (f (k : Int), g (k : Int)))
/-- FLAWS of b within n -/
def cnL (b n : Int) (l : List (Int × Int)) : Nat := l.countP (fun q => decide (q.1 = b ∧ q.2 < n))
/-- FLAWS behind n EIGHTHS of b being taken -/
def shL (b n : Int) (l : List (Int × Int)) : List (Int × Int) := l.filterMap (fun q => if q.1 = b then (if q.2 < n then none else some (q.1, q.2 - n)) else some q)
theorem clL_succ (f g : Int → Int) (n : Nat) : clL f g (n + 1) = clL f g n ++ [(f (n : Int), g (n : Int))] := by
  unfold clL
  rw [List.range_succ, List.map_append]
  rfl
theorem flL_succ (f g : Int → Int) (n : Nat) : flL f g (n + 1) = flL f g n ++ (if g (n : Int) = -1 then [] else [(f (n : Int), g (n : Int))]) := by
  unfold flL
  rw [List.range_succ, List.filterMap_append]
  by_cases h : g (n : Int) = -1
  · simp [h]
  · simp [h]
theorem cnL_app (b n : Int) (l : List (Int × Int)) (q : Int × Int) : cnL b n (l ++ [q]) = cnL b n l + (if q.1 = b ∧ q.2 < n then 1 else 0) := by
  unfold cnL
  rw [List.countP_append]
  congr 1
  by_cases h : q.1 = b ∧ q.2 < n
  · rw [if_pos h]; simp [h]
  · rw [if_neg h]; simp; simp at h; exact h
theorem shL_app (b n : Int) (l : List (Int × Int)) (q : Int × Int) : shL b n (l ++ [q]) = shL b n l ++ (if q.1 = b then (if q.2 < n then [] else [(q.1, q.2 - n)]) else [q]) := by
  unfold shL
  rw [List.filterMap_append]
  congr 1
  by_cases h : q.1 = b
  · by_cases h2 : q.2 < n
    · simp [h, h2]
    · simp [h, h2]
  · simp [h]
theorem cnL_nil (b n : Int) : cnL b n [] = 0 := rfl
theorem clL_zero (f g : Int → Int) : clL f g 0 = [] := rfl
theorem flL_zero (f g : Int → Int) : flL f g 0 = [] := rfl
theorem clL_congr {f g f' g' : Int → Int} {n : Nat} (h : ∀ k : Nat, k < n → f (k : Int) = f' (k : Int) ∧ g (k : Int) = g' (k : Int)) : clL f g n = clL f' g' n := by
  unfold clL
  refine List.map_congr_left fun k hk => ?_
  rw [(h k (List.mem_range.mp hk)).1, (h k (List.mem_range.mp hk)).2]
theorem flL_congr {f g f' g' : Int → Int} : ∀ {n : Nat}, (∀ k : Nat, k < n → f (k : Int) = f' (k : Int) ∧ g (k : Int) = g' (k : Int)) → flL f g n = flL f' g' n
  | 0, _ => rfl
  | n + 1, h => by rw [flL_succ, flL_succ, flL_congr (n := n) (fun k hk => h k (by omega)), (h n (by omega)).1, (h n (by omega)).2]
def Bal (S M : Nat → Int → Int) : Prop := (0 ≤ M 0 0 ∧ M 0 0 ≤ 12) ∧ S 4 0 = M 0 0 ∧ ∀ b, 0 ≤ b → b < M 0 0 → (S 0 b = M 1 b ∧ 0 ≤ M 1 b ∧ M 1 b ≤ 480) ∧ (S 1 b = M 2 b ∧ 1 ≤ M 2 b ∧ M 2 b ≤ 99) ∧ (S 2 b = M 3 b ∧ 0 ≤ M 3 b ∧ M 3 b ≤ 9) ∧ (S 3 b = M 4 b ∧ 0 ≤ M 4 b ∧ M 4 b ≤ 96)
def Flw (S M : Nat → Int → Int) : Prop := (0 ≤ S 7 0 ∧ S 7 0 ≤ 16) ∧ (0 ≤ M 0 1 ∧ M 0 1 ≤ 16) ∧ clL (S 5) (S 6) (S 7 0).toNat = flL (M 5) (M 6) (M 0 1).toNat ∧ ∀ k, 0 ≤ k → k < M 0 1 → 0 ≤ M 5 k ∧ M 5 k < M 0 0 ∧ -1 ≤ M 6 k ∧ M 6 k < M 1 (M 5 k)
def Sca (S M : Nat → Int → Int) : Prop := (S 8 0 = M 0 2 ∧ 0 ≤ M 0 2 ∧ M 0 2 ≤ 8) ∧ (S 9 0 = M 0 3 ∧ 0 ≤ M 0 3 ∧ M 0 3 ≤ 8) ∧ (S 10 0 = M 0 4 ∧ 0 ≤ M 0 4 ∧ M 0 4 ≤ 80) ∧ (S 15 0 = M 0 6 ∧ 0 ≤ M 0 6 ∧ M 0 6 ≤ 80) ∧ (S 16 0 = M 0 7 ∧ 0 ≤ M 0 7 ∧ M 0 7 ≤ 999)
def Frm (S M : Nat → Int → Int) : Prop := (S 14 0 = M 0 5 ∧ 0 ≤ M 0 5 ∧ M 0 5 ≤ 8) ∧ ∀ f, 0 ≤ f → f < M 0 5 → (S 11 f = M 7 f ∧ 1 ≤ M 7 f ∧ M 7 f ≤ 80) ∧ (S 12 f = M 8 f ∧ 1 ≤ M 8 f ∧ M 8 f ≤ 99) ∧ (S 13 f = M 9 f ∧ 0 ≤ M 9 f ∧ M 9 f ≤ 999)
def Std (U M : Nat → Int → Int) (D : Int) : Prop := U 7 0 = M 0 8 ∧ U 8 0 = M 0 9 ∧ U 9 0 = M 0 10 ∧ U 10 0 = M 0 11 ∧ (U 11 0 = M 0 13 ∧ 0 ≤ M 0 13 ∧ M 0 13 ≤ D) ∧ (U 12 0 = M 0 14 ∧ 0 ≤ M 0 14 ∧ M 0 14 ≤ 2147483647)
def Edn (U M : Nat → Int → Int) : Prop := (U 6 0 = M 0 12 ∧ 0 ≤ M 0 12 ∧ M 0 12 ≤ 10) ∧ ∀ e, 0 ≤ e → e < M 0 12 → (U 2 e = M 10 e ∧ 1 ≤ M 10 e ∧ M 10 e ≤ 80) ∧ (U 3 e = M 11 e ∧ 1 ≤ M 11 e ∧ M 11 e ≤ 99) ∧ (U 4 e = M 12 e ∧ 0 ≤ M 12 e ∧ M 12 e ≤ 9) ∧ U 5 e = M 13 e
def Kno (T M : Nat → Int → Int) : Prop := (T 1 0 = M 0 15 ∧ 0 ≤ M 0 15 ∧ M 0 15 ≤ 9) ∧ ∀ k, 0 ≤ k → k < M 0 15 → T 0 k = M 14 k ∧ 1 ≤ M 14 k ∧ M 14 k ≤ 480
def Wei (T M : Nat → Int → Int) : Prop := ∀ k, 1 ≤ k → k < 9 → T 2 k = M 15 k ∧ 0 ≤ M 15 k ∧ M 15 k ≤ 9
def Lev (T M : Nat → Int → Int) : Prop := (T 5 0 = M 0 16 ∧ 0 ≤ M 0 16 ∧ M 0 16 ≤ 5) ∧ ∀ k, 0 ≤ k → k < M 0 16 → (T 3 k = M 16 k ∧ 1 ≤ M 16 k ∧ M 16 k ≤ 99) ∧ (T 4 k = M 17 k ∧ 0 ≤ M 17 k ∧ M 17 k ≤ 99)
/-- what a clerk sold by the first n ENTRIES -/
def bkS (f g : Int → Int) (c : Int) : Nat → Int
  | 0 => 0
  | n + 1 => bkS f g c n + (if f (n : Int) = c then g (n : Int) else 0)
def Boo (T M : Nat → Int → Int) : Prop := (T 7 0 = M 0 17 ∧ 0 ≤ M 0 17 ∧ M 0 17 ≤ 20) ∧ (∀ k, 0 ≤ k → k < M 0 17 → (0 ≤ M 18 k ∧ M 18 k < 6) ∧ (1 ≤ M 19 k ∧ M 19 k ≤ 480)) ∧ ∀ c, 0 ≤ c → c < 6 → T 6 c = bkS (M 18) (M 19) c (M 0 17).toNat
/-- a Shop, and all of a Stand, against the reference's rows -/
def RSh (S M : Nat → Int → Int) : Prop := Bal S M ∧ Flw S M ∧ Sca S M ∧ Frm S M
def RTo (T M : Nat → Int → Int) : Prop := Kno T M ∧ Wei T M ∧ Lev T M ∧ Boo T M
def RS (S T U M : Nat → Int → Int) (D : Int) : Prop := RSh S M ∧ RTo T M ∧ Std U M D ∧ Edn U M
def mfld (a : Nat) : Nat := if a < 10 then 2 + a else 12 + a
def moffL : List Nat := [0, 18, 30, 42, 54, 66, 82, 98, 106, 114, 122, 132, 142, 152, 162, 171, 180, 185, 190, 210]
def moff (a : Nat) : Nat := moffL.getD a 0
/-- the reference's rows as they stand; as an image has them -/
def MM (s : Mem) : Nat → Int → Int := fun a => s 34 (mfld a)
def MI (s : Mem) (k : Int) : Nat → Int → Int := fun a i => s 34 67 (250 * k + (moff a : Int) + i)
theorem MM_0 (s : Mem) : MM s 0 = s 34 2 := rfl
/-! ===== FLAWS ===== -/
theorem p_sh_flawsWithin {o : Nat} {b n : Int} {s : Mem} {Q : Int → Mem → Prop} (ho : cls o = 5) (hn : 0 ≤ s o 7 0 ∧ s o 7 0 ≤ 16) (hb : wr b = b) (hn2 : wr n = n) (hv : ∀ k, 0 ≤ k → k < s o 7 0 → wr (s o 5 k) = s o 5 k ∧ wr (s o 6 k) = s o 6 k) (h : Q (cnL b n (clL (s o 5) (s o 6) (s o 7 0).toNat) : Nat) s) : W_sh_flawsWithin o b n s Q := by
  refine w_sh_flawsWithin (b_sh_flawsWithin_0 ho ?_)
  have e1 : wr (s o 7 0) = s o 7 0 := wr_id (by omega) (by omega)
  have loop : ∀ i : Int, 0 ≤ i → i ≤ s o 7 0 → K_sh_flawsWithin_5 Q o b n (cnL b n (clL (s o 5) (s o 6) i.toNat) : Nat) i s := by
    refine fun i => ind_up (P := fun i => 0 ≤ i → i ≤ s o 7 0 → K_sh_flawsWithin_5 Q o b n (cnL b n (clL (s o 5) (s o 6) i.toNat) : Nat) i s) (s o 7 0) (fun i ih h0 h1 => ?_) i
    have e2 : wr i = i := wr_id (by omega) (by omega)
    refine b_sh_flawsWithin_5 ho ?_
    unfold T_sh_flawsWithin_5 T_sh_flawsWithin_45 T_sh_flawsWithin_39
    rw [e1, e2, hb, hn2]
    refine ⟨fun c => ?_, fun c => ?_⟩
    · have : i = s o 7 0 := by omega
      rw [this]
      exact h
    · obtain ⟨v1, v2⟩ := hv i h0 (by omega)
      rw [v1, v2]
      have ih := ih (by omega) (by omega) (by omega)
      have et : (i + 1).toNat = i.toNat + 1 := by omega
      have ei : ((i.toNat : Nat) : Int) = i := by omega
      rw [et, clL_succ, cnL_app, ei] at ih
      refine ⟨⟨h0, by omega⟩, fun c2 => ?_, fun c2 => ⟨⟨h0, by omega⟩, fun c3 => ?_, fun c3 => ?_⟩⟩
      · rw [if_neg (fun q => c2 q.1)] at ih
        exact ih
      · rw [if_neg (fun q => by have := q.2; dsimp only at this; omega)] at ih
        exact ih
      · rw [if_pos ⟨by dsimp only; omega, by dsimp only; omega⟩] at ih
        exact ih
  exact loop 0 (Int.le_refl _) hn.1
theorem p_md_flawsIn {b n : Int} {s : Mem} {Q : Int → Mem → Prop} (hm : 0 ≤ s 34 2 1 ∧ s 34 2 1 ≤ 16) (hb : wr b = b) (hn : -1000 ≤ n ∧ n ≤ 1000) (hv : ∀ k, 0 ≤ k → k < s 34 2 1 → (-1 ≤ s 34 7 k ∧ s 34 7 k ≤ 1000) ∧ (-1 ≤ s 34 8 k ∧ s 34 8 k ≤ 1000)) (h : Q (cnL b n (flL (s 34 7) (s 34 8) (s 34 2 1).toNat) : Nat) s) : W_md_flawsIn b n s Q := by
  refine w_md_flawsIn (b_md_flawsIn_0 ?_)
  have e1 : wr (s 34 2 1) = s 34 2 1 := wr_id (by omega) (by omega)
  have loop : ∀ i : Int, 0 ≤ i → i ≤ s 34 2 1 → K_md_flawsIn_5 Q b n (cnL b n (flL (s 34 7) (s 34 8) i.toNat) : Nat) i s := by
    refine fun i => ind_up (P := fun i => 0 ≤ i → i ≤ s 34 2 1 → K_md_flawsIn_5 Q b n (cnL b n (flL (s 34 7) (s 34 8) i.toNat) : Nat) i s) (s 34 2 1) (fun i ih h0 h1 => ?_) i
    have e2 : wr i = i := wr_id (by omega) (by omega)
    refine b_md_flawsIn_5 ?_
    unfold T_md_flawsIn_5 T_md_flawsIn_60 T_md_flawsIn_51 T_md_flawsIn_52
    rw [e1, e2, hb]
    refine ⟨fun c => ?_, fun c => ?_⟩
    · have : i = s 34 2 1 := by omega
      rw [this]
      exact h
    · obtain ⟨⟨v1, v2⟩, v3, v4⟩ := hv i h0 (by omega)
      have ih := ih (by omega) (by omega) (by omega)
      have et : (i + 1).toNat = i.toNat + 1 := by omega
      have ei : ((i.toNat : Nat) : Int) = i := by omega
      rw [et, flL_succ, ei] at ih
      have w1 : wr (s 34 7 i) = s 34 7 i := wr_id (by omega) (by omega)
      have w2 : wr (s 34 8 i) = s 34 8 i := wr_id (by omega) (by omega)
      have w3 : wr (n - 1) = n - 1 := wr_id (by omega) (by omega)
      rw [w1, w2, w3]
      have key : (cnL b n (flL (s 34 7) (s 34 8) i.toNat ++ (if s 34 8 i = -1 then [] else [(s 34 7 i, s 34 8 i)])) : Nat) = cnL b n (flL (s 34 7) (s 34 8) i.toNat) + (if s 34 7 i = b ∧ 0 ≤ s 34 8 i ∧ s 34 8 i ≤ n - 1 then 1 else 0) := by
        by_cases q : s 34 8 i = -1
        · rw [if_pos q, List.append_nil, if_neg (by omega), Nat.add_zero]
        · rw [if_neg q, cnL_app]
          congr 1
          by_cases q2 : s 34 7 i = b ∧ s 34 8 i < n
          · rw [if_pos q2, if_pos ⟨q2.1, by omega, by omega⟩]
          · rw [if_neg q2, if_neg (fun z => q2 ⟨z.1, by omega⟩)]
      rw [key] at ih
      refine ⟨⟨h0, by omega⟩, fun c2 => ?_, fun c2 => ⟨⟨h0, by omega⟩, p_md_in ?_⟩⟩
      · rw [if_neg (fun q => c2 q.1)] at ih
        rw [Nat.add_zero] at ih
        show K_md_flawsIn_5 Q b n (_ + 0) (i + 1) s
        rw [Int.add_zero]
        exact ih
      · intro _
        rw [b2_w0]
        have g1 : wL (s 34 8 i) = s 34 8 i := wL_id (by omega) (by omega)
        have g2 : wL (n - 1) = n - 1 := wL_id (by omega) (by omega)
        have g3 : wL 0 = 0 := by decide
        rw [g1, g2, g3]
        refine ⟨fun c3 => ?_, fun c3 => ?_⟩
        · rw [if_neg (fun q => c3 q.2), Nat.add_zero] at ih
          rw [Int.add_zero]
          exact ih
        · rw [if_pos ⟨by omega, by omega⟩] at ih
          exact ih
  exact loop 0 (Int.le_refl _) hm.1
