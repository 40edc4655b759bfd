/-! ===== WHICH: what is SOLD on the mean ===== -/
def beh (th x n : Int) : Int := max 0 (x - n - th)
def opt (v : Bool) (x b : Int) : Int := if v = true then max b x else b
def bst (th p : Int) (f : Int → Int → Int → Int) (a b c n : Int) : Int := opt (decide (n ≤ c)) (n * p + f a b (beh th c n)) (opt (decide (n ≤ b)) (n * p + f a (beh th b n) c) (opt (decide (n ≤ a)) (n * p + f (beh th a n) b c) (f a b c)))
def pm (w : Int → Int) (tw th : Int) : Nat → Int → Int → Int → Int
  | 0 => fun _ _ _ => 0
  | m + 1 => fun a b c => smL (fun k => w (k + 1) * bst th (tw ^ m) (pm w tw th m) a b c (k + 1)) 8
theorem pm_s (w : Int → Int) (tw th : Int) (m : Nat) (a b c : Int) : pm w tw th (m + 1) a b c = smL (fun k => w (k + 1) * bst th (tw ^ m) (pm w tw th m) a b c (k + 1)) 8 := rfl
/-- the WEIGHTS are as told, tw all of them -/
def WO (w : Int → Int) (tw : Int) : Prop := (∀ i, 1 ≤ i → i ≤ 8 → 0 ≤ w i ∧ w i ≤ 9) ∧ tw = smL (fun k => w (k + 1)) 8 ∧ 1 ≤ tw ∧ tw ≤ 72
theorem opt_t {v : Bool} {x b : Int} (h : v = true) : opt v x b = max b x := if_pos h
theorem opt_f {v : Bool} {x b : Int} (h : ¬ v = true) : opt v x b = b := if_neg h
theorem opt_le {v : Bool} {x b B : Int} (h1 : x ≤ B) (h2 : b ≤ B) (h0 : 0 ≤ b) : 0 ≤ opt v x b ∧ opt v x b ≤ B := by
  unfold opt
  split <;> omega
theorem beh_bd {th x n : Int} (hth : 0 ≤ th) (hn : 0 ≤ n) (hx : 0 ≤ x ∧ x ≤ 40) : 0 ≤ beh th x n ∧ beh th x n ≤ 40 := by
  unfold beh
  omega
theorem pow_tw {tw : Int} (h : 1 ≤ tw ∧ tw ≤ 72) : ∀ m : Nat, m ≤ 4 → 1 ≤ tw ^ m ∧ tw ^ m ≤ 26873856 := by
  have st : ∀ {p B : Int}, 1 ≤ p → p ≤ B → 1 ≤ p * tw ∧ p * tw ≤ B * 72 := fun {p B} h1 h2 => by
    have h3 : p * 1 ≤ p * tw := Int.mul_le_mul_of_nonneg_left h.1 (by omega)
    have h4 : p * tw ≤ p * 72 := Int.mul_le_mul_of_nonneg_left h.2 (by omega)
    omega
  have p0 : tw ^ 0 = 1 := Int.pow_zero _
  have p1 : tw ^ 1 = tw := by rw [Int.pow_succ, p0, Int.one_mul]
  have p2 : tw ^ 2 = tw * tw := by rw [Int.pow_succ, p1]
  have p3 : tw ^ 3 = tw * tw * tw := by rw [Int.pow_succ, p2]
  have p4 : tw ^ 4 = tw * tw * tw * tw := by rw [Int.pow_succ, p3]
  have b2 := st (p := tw) (B := 72) h.1 h.2
  have b3 := st b2.1 b2.2
  have b4 := st b3.1 b3.2
  intro m hm
  rcases (show m = 0 ∨ m = 1 ∨ m = 2 ∨ m = 3 ∨ m = 4 by omega) with q | q | q | q | q <;> subst q
  · rw [p0]; omega
  · rw [p1]; omega
  · rw [p2]; omega
  · rw [p3]; omega
  · rw [p4]; omega
theorem bst_bd {th p B : Int} {f : Int → Int → Int → Int} (hp : 0 ≤ p) (hf : ∀ a b c, 0 ≤ f a b c ∧ f a b c ≤ B) (a b c : Int) {n : Int} (hn : 1 ≤ n ∧ n ≤ 8) : 0 ≤ bst th p f a b c n ∧ bst th p f a b c n ≤ 8 * p + B := by
  have h1 : n * p ≤ 8 * p := Int.mul_le_mul_of_nonneg_right hn.2 hp
  unfold bst
  have f0 := hf a b c
  have f1 := hf (beh th a n) b c
  have f2 := hf a (beh th b n) c
  have f3 := hf a b (beh th c n)
  have s1 := opt_le (v := decide (n ≤ a)) (x := n * p + f (beh th a n) b c) (b := f a b c) (B := 8 * p + B) (by omega) (by omega) f0.1
  have s2 := opt_le (v := decide (n ≤ b)) (x := n * p + f a (beh th b n) c) (B := 8 * p + B) (by omega) s1.2 s1.1
  exact opt_le (by omega) s2.2 s2.1
theorem smL_w {w f : Int → Int} {B : Int} (hB : 0 ≤ B) : ∀ n : Nat, (∀ k : Int, 0 ≤ k → k < n → (0 ≤ w k ∧ 0 ≤ f k ∧ f k ≤ B)) → 0 ≤ smL (fun k => w k * f k) n ∧ smL (fun k => w k * f k) n ≤ smL w n * B
  | 0, _ => by
    show 0 ≤ (0 : Int) ∧ (0 : Int) ≤ 0 * B
    rw [Int.zero_mul]
    omega
  | n + 1, h => by
    have ih := smL_w hB n (fun k k0 k1 => h k k0 (by omega))
    obtain ⟨h1, h2, h3⟩ := h n (by omega) (by omega)
    have h4 : w (n : Int) * f (n : Int) ≤ w (n : Int) * B := Int.mul_le_mul_of_nonneg_left h3 h1
    have h5 : 0 ≤ w (n : Int) * f (n : Int) := Int.mul_nonneg h1 h2
    show 0 ≤ smL (fun k => w k * f k) n + w (n : Int) * f (n : Int) ∧ smL (fun k => w k * f k) n + w (n : Int) * f (n : Int) ≤ (smL w n + w (n : Int)) * B
    rw [Int.add_mul]
    omega
theorem pm_bd {w : Int → Int} {tw th : Int} (hw : WO w tw) : ∀ (m : Nat) (a b c : Int), 0 ≤ pm w tw th m a b c ∧ pm w tw th m a b c ≤ 8 * (m : Int) * tw ^ m
  | 0, _, _, _ => by
    show 0 ≤ (0 : Int) ∧ (0 : Int) ≤ 8 * ((0 : Nat) : Int) * tw ^ 0
    rw [Int.pow_zero]
    omega
  | m + 1, a, b, c => by
    obtain ⟨h1, h2, h3, h4⟩ := hw
    have ih := pm_bd (th := th) ⟨h1, h2, h3, h4⟩ m
    have hp : 0 ≤ tw ^ m := Int.pow_nonneg (by omega)
    have hB : 0 ≤ 8 * tw ^ m + 8 * (m : Int) * tw ^ m := by
      have : 0 ≤ 8 * (m : Int) * tw ^ m := Int.mul_nonneg (by omega) hp
      omega
    have key := smL_w (w := fun k => w (k + 1)) (f := fun k => bst th (tw ^ m) (pm w tw th m) a b c (k + 1)) hB 8 (fun k k0 k1 => by
      have e1 := h1 (k + 1) (by omega) (by omega)
      have e2 := bst_bd (th := th) hp ih a b c (n := k + 1) (by omega)
      exact ⟨e1.1, e2.1, e2.2⟩)
    rw [← h2] at key
    have e : 8 * ((m + 1 : Nat) : Int) * tw ^ (m + 1) = tw * (8 * tw ^ m + 8 * (m : Int) * tw ^ m) := by
      rw [Int.pow_succ, Int.mul_comm (tw ^ m) tw, show ((m + 1 : Nat) : Int) = (m : Int) + 1 by omega, ← Int.mul_assoc, Int.mul_comm _ tw, Int.mul_assoc, ← Int.add_mul, show 8 * ((m : Int) + 1) = 8 + 8 * (m : Int) by omega]
    rw [e]
    exact key
theorem pm_b4 {w : Int → Int} {tw th : Int} (hw : WO w tw) (m : Nat) (hm : m ≤ 4) (a b c : Int) : 0 ≤ pm w tw th m a b c ∧ pm w tw th m a b c ≤ 859963392 := by
  have h1 := pm_bd (th := th) hw m a b c
  have h2 := pow_tw hw.2.2 m hm
  have h3 : 8 * (m : Int) * tw ^ m ≤ 32 * tw ^ m := Int.mul_le_mul_of_nonneg_right (by omega) (by omega)
  omega
/-- by one ORDER more: it goes by the greatest BALE alone -/
def lst (w : Int → Int) (j : Nat) : Int := smL (fun k => w (k + 1) * (k + 1)) j
theorem smL_cut {f g : Int → Int} {j : Nat} : ∀ n : Nat, (∀ k : Nat, k < n → g (k : Int) = if k < j then f (k : Int) else 0) → smL g n = smL f (min j n)
  | 0, _ => by rw [Nat.min_zero]; rfl
  | n + 1, h => by
    have ih := smL_cut (f := f) (g := g) n (fun k hk => h k (by omega))
    have hn := h n (by omega)
    show smL g n + g (n : Int) = _
    rw [ih, hn]
    by_cases q : n < j
    · rw [if_pos q, Nat.min_eq_right (by omega), Nat.min_eq_right (by omega)]
      rfl
    · rw [if_neg q, Nat.min_eq_left (by omega), Nat.min_eq_left (by omega)]
      exact Int.add_zero _
theorem pm_1 {w : Int → Int} {tw th a b c : Int} (ha : 0 ≤ a) (hb : 0 ≤ b) (hc : 0 ≤ c) : pm w tw th 1 a b c = lst w (min 8 (max a (max b c))).toNat := by
  rw [show (1 : Nat) = 0 + 1 from rfl, pm_s]
  unfold lst
  rw [smL_cut (f := fun k => w (k + 1) * (k + 1)) (j := (max a (max b c)).toNat) 8 (fun k hk => ?_)]
  · congr 1
    omega
  · have e : bst th (tw ^ 0) (pm w tw th 0) a b c ((k : Int) + 1) = if k < (max a (max b c)).toNat then (k : Int) + 1 else 0 := by
      unfold bst
      rw [Int.pow_zero, Int.mul_one]
      show opt (decide ((k : Int) + 1 ≤ c)) ((k : Int) + 1 + 0) (opt (decide ((k : Int) + 1 ≤ b)) ((k : Int) + 1 + 0) (opt (decide ((k : Int) + 1 ≤ a)) ((k : Int) + 1 + 0) 0)) = _
      unfold opt
      simp only [decide_eq_true_eq]
      repeat' split
      all_goals omega
    show w ((k : Int) + 1) * bst th (tw ^ 0) (pm w tw th 0) a b c ((k : Int) + 1) = _
    rw [e]
    split
    · rfl
    · exact Int.mul_zero _
/-! the class's walk -/
def WPs (s : Mem) (w : Int → Int) (tw th : Int) : Prop := s 26 2 0 = th ∧ (∀ i, 1 ≤ i → i ≤ 8 → s 26 3 i = w i) ∧ (∀ j : Nat, j ≤ 8 → s 26 4 (j : Int) = lst w j) ∧ ∀ j : Nat, j ≤ 4 → s 26 5 (j : Int) = tw ^ j
theorem p_wp_behind {x n th : Int} {s : Mem} {Q : Int → Mem → Prop} (e : s 26 2 0 = th) (h : -100000 ≤ x - n - th ∧ x - n - th ≤ 100000) (hQ : Q (beh th x n) s) : W_wp_behind x n s Q := by
  refine w_wp_behind (b_wp_behind_0 ?_)
  unfold T_wp_behind_0
  rw [e, wr_id (x := x - n - th) (by omega) (by omega)]
  exact hQ
theorem p_wp_mean {w : Int → Int} {tw th : Int} {s : Mem} (hW : WO w tw) (hP : WPs s w tw th) (hth : 0 ≤ th ∧ th ≤ 8) : ∀ (m fu : Nat), m ≤ 4 → m ≤ fu → ∀ (a b c : Int) (Q : Int → Mem → Prop), (0 ≤ a ∧ a ≤ 40) → (0 ≤ b ∧ b ≤ 40) → (0 ≤ c ∧ c ≤ 40) → Q (pm w tw th m a b c) s → W_wp_mean (fu + 1) (m : Int) a b c s Q := by
  obtain ⟨e2, e3, e4, e5⟩ := hP
  intro m
  induction m with
  | zero =>
    intro fu _ _ a b c Q _ _ _ hQ
    refine w_wp_mean (b_wp_mean_0 ?_)
    unfold T_wp_mean_0 T_wp_mean_9
    exact ⟨fun _ => hQ, fun z => absurd (by decide) z⟩
  | succ m ih =>
    intro fu hm4 hfu a b c Q ha hb hc hQ
    refine w_wp_mean (b_wp_mean_0 ?_)
    unfold T_wp_mean_0 T_wp_mean_9 T_wp_mean_11
    rw [wr_id (x := ((m + 1 : Nat) : Int)) (by omega) (by omega), wr_id (x := a) (by omega) (by omega), wr_id (x := b) (by omega) (by omega), wr_id (x := c) (by omega) (by omega), wr_id (x := max b c) (by omega) (by omega), wr_id (x := max a (max b c)) (by omega) (by omega), wr_id (x := min 8 (max a (max b c))) (by omega) (by omega)]
    refine br_f (by omega) (br_t (by omega) ⟨fun c1 => ?_, fun c1 => ⟨by omega, ?_⟩⟩)
    · obtain ⟨fu, rfl⟩ : ∃ f, fu = f + 1 := ⟨fu - 1, by omega⟩
      unfold T_wp_mean_37
      have em : ((m + 1 : Nat) : Int) - 1 = (m : Int) := by omega
      rw [em]
      have pb := pow_tw hW.2.2 m (by omega)
      have fb := fun a b c => pm_b4 (th := th) hW m (by omega) a b c
      refine ih fu (by omega) (by omega) a b c _ ha hb hc ?_
      have loop : ∀ d k : Nat, 8 - k = d → k ≤ 8 → K_wp_mean_56 (fu + 1) Q ((m + 1 : Nat) : Int) a b c (pm w tw th m a b c) (smL (fun k => w (k + 1) * bst th (tw ^ m) (pm w tw th m) a b c (k + 1)) k) ((k : Int) + 1) s := by
        intro d
        induction d with
        | zero =>
          intro k hd hk
          have e : k = 8 := by omega
          subst e
          refine b_wp_mean_56 ?_
          unfold T_wp_mean_56 T_wp_mean_216
          exact ⟨fun _ => hQ, fun z => absurd (by decide) z⟩
        | succ d ihd =>
          intro k hd hk
          refine b_wp_mean_56 ?_
          have hwk := hW.1 ((k : Int) + 1) (by omega) (by omega)
          have hew := e3 ((k : Int) + 1) (by omega) (by omega)
          have ihd : K_wp_mean_56 (fu + 1) Q ((m + 1 : Nat) : Int) a b c (pm w tw th m a b c) (smL (fun k => w (k + 1) * bst th (tw ^ m) (pm w tw th m) a b c (k + 1)) k + w ((k : Int) + 1) * bst th (tw ^ m) (pm w tw th m) a b c ((k : Int) + 1)) (((k + 1 : Nat) : Int) + 1) s := ihd (k + 1) (by omega) (by omega)
          rw [show ((k + 1 : Nat) : Int) = (k : Int) + 1 by omega] at ihd
          have hbs := bst_bd (th := th) (p := tw ^ m) (f := pm w tw th m) (by omega) (fun a b c => fb a b c) a b c (n := (k : Int) + 1) (by omega)
          generalize smL (fun k => w (k + 1) * bst th (tw ^ m) (pm w tw th m) a b c (k + 1)) k = S at ihd ⊢
          generalize hn : (k : Int) + 1 = n at hwk hew ihd hbs ⊢
          have hn8 : 1 ≤ n ∧ n ≤ 8 := by omega
          unfold T_wp_mean_56
          rw [wr_id (x := n) (by omega) (by omega), hew, wr_id (x := w n) (by omega) (by omega)]
          refine ⟨fun z => by omega, fun _ => ⟨by omega, fun c2 => ?_, fun c2 => ?_⟩⟩
          · unfold T_wp_mean_76
            rw [em, wr_id (x := (m : Int)) (by omega) (by omega), wr_id (x := n) (by omega) (by omega), e5 m (by omega), wr_id (x := a) (by omega) (by omega)]
            refine ⟨by omega, ?_⟩
            rintro x1 rfl
            have hnp : n * tw ^ m ≤ 8 * tw ^ m := Int.mul_le_mul_of_nonneg_right hn8.2 (by omega)
            have hnp0 : 0 ≤ n * tw ^ m := Int.mul_nonneg (by omega) (by omega)
            -- behind the three
            have t194 : ∀ y : Int, y = bst th (tw ^ m) (pm w tw th m) a b c n → T_wp_mean_194 (fu + 1) Q ((m + 1 : Nat) : Int) a b c (pm w tw th m a b c) S n y s := fun y hy => by
              unfold T_wp_mean_194 T_wp_mean_210
              rw [wr_id (x := n) (by omega) (by omega), hew, wr_id (x := w n) (by omega) (by omega), hy]
              refine ⟨by omega, ?_⟩
              rintro x1 rfl
              exact ihd
            have rc : ∀ (a' b' c' : Int) (Q' : Int → Mem → Prop), (0 ≤ a' ∧ a' ≤ 40) → (0 ≤ b' ∧ b' ≤ 40) → (0 ≤ c' ∧ c' ≤ 40) → Q' (pm w tw th m a' b' c') s → W_wp_mean (fu + 1) (m : Int) a' b' c' s Q' := ih fu (by omega) (by omega)
            have f0 := fb a b c
            have f1 := fb (beh th a n) b c
            have f2 := fb a (beh th b n) c
            have f3 := fb a b (beh th c n)
            have o1 := opt_le (v := decide (n ≤ a)) (x := n * tw ^ m + pm w tw th m (beh th a n) b c) (b := pm w tw th m a b c) (B := 8 * tw ^ m + 859963392) (by omega) (by omega) f0.1
            have o2 := opt_le (v := decide (n ≤ b)) (x := n * tw ^ m + pm w tw th m a (beh th b n) c) (B := 8 * tw ^ m + 859963392) (by omega) o1.2 o1.1
            have wm : ∀ {y z : Int}, (0 ≤ y ∧ y ≤ 8 * tw ^ m + 859963392) → (0 ≤ z ∧ z ≤ 859963392) → max (wL y) (wL (n * tw ^ m + z)) = max y (n * tw ^ m + z) := fun {y z} hy hz => by rw [wL_id (x := y) (by omega) (by omega), wL_id (x := n * tw ^ m + z) (by omega) (by omega)]
            have t160 : ∀ y : Int, y = opt (decide (n ≤ b)) (n * tw ^ m + pm w tw th m a (beh th b n) c) (opt (decide (n ≤ a)) (n * tw ^ m + pm w tw th m (beh th a n) b c) (pm w tw th m a b c)) → T_wp_mean_160 (fu + 1) Q ((m + 1 : Nat) : Int) a b c (pm w tw th m a b c) S n y (n * tw ^ m) s := fun y hy => by
              unfold T_wp_mean_160
              rw [em, wr_id (x := c) (by omega) (by omega), wr_id (x := n) (by omega) (by omega)]
              refine ⟨fun q => t194 y ?_, fun q => p_wp_behind e2 (by omega) (rc a b (beh th c n) _ ha hb (beh_bd hth.1 (by omega) hc) ?_)⟩
              · unfold bst
                rw [opt_f (fun z => by have := decide_eq_true_iff.mp z; omega)]
                exact hy
              · intro x6 e6
                refine t194 x6 ?_
                unfold bst
                rw [opt_t (decide_eq_true (by omega)), e6, wm (by rw [hy]; exact o2) f3, hy]
            have t127 : ∀ y : Int, y = opt (decide (n ≤ a)) (n * tw ^ m + pm w tw th m (beh th a n) b c) (pm w tw th m a b c) → T_wp_mean_127 (fu + 1) Q ((m + 1 : Nat) : Int) a b c (pm w tw th m a b c) S n y (n * tw ^ m) s := fun y hy => by
              unfold T_wp_mean_127
              rw [em, wr_id (x := b) (by omega) (by omega), wr_id (x := n) (by omega) (by omega)]
              refine ⟨fun q => t160 y ?_, fun q => p_wp_behind e2 (by omega) (rc a (beh th b n) c _ ha (beh_bd hth.1 (by omega) hb) hc ?_)⟩
              · rw [opt_f (fun z => by have := decide_eq_true_iff.mp z; omega)]
                exact hy
              · intro x6 e6
                refine t160 x6 ?_
                rw [opt_t (decide_eq_true (by omega)), e6, wm (by rw [hy]; exact o1) f2, hy]
            refine ⟨fun q => t127 _ ?_, fun q => p_wp_behind e2 (by omega) (rc (beh th a n) b c _ (beh_bd hth.1 (by omega) ha) hb hc ?_)⟩
            · rw [opt_f (fun z => by have := decide_eq_true_iff.mp z; omega)]
            · intro x6 e6
              refine t127 x6 ?_
              rw [opt_t (decide_eq_true (by omega)), e6, wm (by omega) f1]
          · unfold T_wp_mean_210
            have e0 : w n = 0 := by omega
            rw [e0, Int.zero_mul, Int.add_zero] at ihd
            exact ihd
      have := loop 8 0 (by omega) (by omega)
      exact this
    · have em : m = 0 := by omega
      subst em
      have hj := e4 (min 8 (max a (max b c))).toNat (by omega)
      rw [ei_nat (by omega)] at hj
      rw [hj, ← pm_1 (tw := tw) (th := th) ha.1 hb.1 hc.1]
      exact hQ
