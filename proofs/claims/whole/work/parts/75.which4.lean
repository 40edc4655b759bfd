/-! ===== WHICH: which BALE ===== -/
def rsO (th order : Int) (L : Int → Int) (j i : Int) : Int := if j = i then beh th (L j) order else L j
def xvO (w : Int → Int) (tw th order : Int) (m : Nat) (L : Int → Int) (i : Int) : Int := order * tw ^ m + pm w tw th m (rsO th order L 0 i) (rsO th order L 1 i) (rsO th order L 2 i)
def kpO (w : Int → Int) (tw th : Int) (m : Nat) (L : Int → Int) : Int := pm w tw th m (L 0) (L 1) (L 2)
/-- the class's choice; the reference's -/
def cF (order : Int) (B L x : Int → Int) : Nat → Int × Int
  | 0 => (-1, -1)
  | i + 1 => if L (i : Int) < order then cF order B L x i else if (cF order B L x i).2 < x (i : Int) then (B (i : Int), x (i : Int)) else cF order B L x i
def cE (order k : Int) (B L x : Int → Int) : Int × Int := if (cF order B L x 3).2 < k then (-1, k) else cF order B L x 3
def rF (order k : Int) (B L x : Int → Int) : Nat → Int × Int
  | 0 => (-1, k)
  | i + 1 => if L (i : Int) < order then rF order k B L x i else if (rF order k B L x i).1 = -1 then (if x (i : Int) < (rF order k B L x i).2 then rF order k B L x i else (B (i : Int), x (i : Int))) else if (rF order k B L x i).2 < x (i : Int) then (B (i : Int), x (i : Int)) else rF order k B L x i
theorem crF {order k : Int} {B L x : Int → Int} (hk : 0 ≤ k) (ho : 1 ≤ order) (hB : ∀ i, 0 ≤ i → i < 3 → 1 ≤ L i → 0 ≤ B i) : ∀ i : Nat, i ≤ 3 → (rF order k B L x i = (-1, k) ∧ (cF order B L x i).2 < k) ∨ (rF order k B L x i = cF order B L x i ∧ k ≤ (cF order B L x i).2 ∧ 0 ≤ (cF order B L x i).1)
  | 0, _ => Or.inl ⟨rfl, by show (-1 : Int) < k; omega⟩
  | i + 1, hi => by
    have ih := crF (x := x) hk ho hB i (by omega)
    show ((if L (i : Int) < order then rF order k B L x i else if (rF order k B L x i).1 = -1 then (if x (i : Int) < (rF order k B L x i).2 then rF order k B L x i else (B (i : Int), x (i : Int))) else if (rF order k B L x i).2 < x (i : Int) then (B (i : Int), x (i : Int)) else rF order k B L x i) = (-1, k) ∧ (if L (i : Int) < order then cF order B L x i else if (cF order B L x i).2 < x (i : Int) then (B (i : Int), x (i : Int)) else cF order B L x i).2 < k) ∨ ((if L (i : Int) < order then rF order k B L x i else if (rF order k B L x i).1 = -1 then (if x (i : Int) < (rF order k B L x i).2 then rF order k B L x i else (B (i : Int), x (i : Int))) else if (rF order k B L x i).2 < x (i : Int) then (B (i : Int), x (i : Int)) else rF order k B L x i) = (if L (i : Int) < order then cF order B L x i else if (cF order B L x i).2 < x (i : Int) then (B (i : Int), x (i : Int)) else cF order B L x i) ∧ k ≤ (if L (i : Int) < order then cF order B L x i else if (cF order B L x i).2 < x (i : Int) then (B (i : Int), x (i : Int)) else cF order B L x i).2 ∧ 0 ≤ (if L (i : Int) < order then cF order B L x i else if (cF order B L x i).2 < x (i : Int) then (B (i : Int), x (i : Int)) else cF order B L x i).1)
    by_cases c : L (i : Int) < order
    · rw [if_pos c, if_pos c]
      exact ih
    · rw [if_neg c, if_neg c]
      have hBi := hB i (by omega) (by omega) (by omega)
      rcases ih with ⟨i1, i2⟩ | ⟨i1, i2, i3⟩
      · rw [i1]
        have e1 : ((-1, k) : Int × Int).1 = -1 := rfl
        have e2 : ((-1, k) : Int × Int).2 = k := rfl
        rw [e1, e2, if_pos rfl]
        by_cases c2 : x (i : Int) < k
        · rw [if_pos c2]
          left
          refine ⟨rfl, ?_⟩
          split
          · exact c2
          · exact i2
        · rw [if_neg c2, if_pos (by omega)]
          exact Or.inr ⟨rfl, by show k ≤ x (i : Int); omega, hBi⟩
      · rw [i1, if_neg (by omega)]
        right
        refine ⟨rfl, ?_⟩
        split
        · exact ⟨by show k ≤ x (i : Int); omega, hBi⟩
        · exact ⟨i2, i3⟩
theorem cE_rF {order k : Int} {B L x : Int → Int} (hk : 0 ≤ k) (ho : 1 ≤ order) (hB : ∀ i, 0 ≤ i → i < 3 → 1 ≤ L i → 0 ≤ B i) : cE order k B L x = rF order k B L x 3 := by
  unfold cE
  rcases crF (x := x) hk ho hB 3 (Nat.le_refl _) with ⟨i1, i2⟩ | ⟨i1, i2, i3⟩
  · rw [if_pos i2, i1]
  · rw [if_neg (by omega), i1]
theorem p_wp_rest {th order j i : Int} {L : Int → Int} {s : Mem} {Q : Int → Mem → Prop} (e2 : s 26 2 0 = th) (hL : ∀ i, 0 ≤ i → i < 3 → s 26 1 i = L i ∧ 0 ≤ L i ∧ L i ≤ 40) (hj : 0 ≤ j ∧ j < 3) (hi : 0 ≤ i ∧ i < 3) (hth : 0 ≤ th ∧ th ≤ 8) (ho : 1 ≤ order ∧ order ≤ 480) (h : Q (rsO th order L j i) s) : W_wp_rest j i order s Q := by
  obtain ⟨l1, l2⟩ := hL j hj.1 hj.2
  unfold rsO at h
  refine w_wp_rest (b_wp_rest_0 ?_)
  unfold T_wp_rest_0 T_wp_rest_19 T_wp_rest_25
  rw [wr_id (x := j) (by omega) (by omega), wr_id (x := i) (by omega) (by omega), l1]
  refine ⟨fun c => ⟨hj, ?_⟩, fun c => ⟨hj, p_wp_behind e2 (by omega) ?_⟩⟩
  · rw [if_neg c] at h
    exact h
  · rw [if_pos (Decidable.byContradiction c)] at h
    exact h
theorem rsO_bd {th order j i : Int} {L : Int → Int} (hth : 0 ≤ th) (ho : 1 ≤ order) (hL : 0 ≤ L j ∧ L j ≤ 40) : 0 ≤ rsO th order L j i ∧ rsO th order L j i ≤ 40 := by
  unfold rsO
  split
  · exact beh_bd hth (by omega) hL
  · exact hL
theorem xvO_bd {w : Int → Int} {tw th order : Int} (hW : WO w tw) (ho : 1 ≤ order ∧ order ≤ 480) {m : Nat} (hm : m ≤ 4) (L : Int → Int) (i : Int) : 0 ≤ xvO w tw th order m L i ∧ xvO w tw th order m L i ≤ 100000000000 := by
  have h1 := pow_tw hW.2.2 m hm
  have h2 : order * tw ^ m ≤ 480 * tw ^ m := Int.mul_le_mul_of_nonneg_right ho.2 (by omega)
  have h3 : 0 ≤ order * tw ^ m := Int.mul_nonneg (by omega) (by omega)
  have h4 := pm_b4 (th := th) hW m hm (rsO th order L 0 i) (rsO th order L 1 i) (rsO th order L 2 i)
  unfold xvO
  omega
theorem cF_bd {order : Int} {B L x : Int → Int} (hx : ∀ i, 0 ≤ x i ∧ x i ≤ 100000000000) : ∀ i : Nat, -1 ≤ (cF order B L x i).2 ∧ (cF order B L x i).2 ≤ 100000000000
  | 0 => by show -1 ≤ (-1 : Int) ∧ (-1 : Int) ≤ _; omega
  | i + 1 => by
    have ih := cF_bd (order := order) (B := B) (L := L) hx i
    have h := hx i
    rw [show cF order B L x (i + 1) = if L (i : Int) < order then cF order B L x i else if (cF order B L x i).2 < x (i : Int) then (B (i : Int), x (i : Int)) else cF order B L x i from rfl]
    by_cases c1 : L (i : Int) < order
    · rw [if_pos c1]
      exact ih
    · rw [if_neg c1]
      by_cases c2 : (cF order B L x i).2 < x (i : Int)
      · rw [if_pos c2]
        exact ⟨by show -1 ≤ x (i : Int); omega, h.2⟩
      · rw [if_neg c2]
        exact ih
theorem p_wp_work {w : Int → Int} {tw th order : Int} {m : Nat} {B L : Int → Int} {s : Mem} {Q : Mem → Prop} (hW : WO w tw) (hP : WPs s w tw th) (hth : 0 ≤ th ∧ th ≤ 8) (hm : m ≤ 4) (ho : 1 ≤ order ∧ order ≤ 480) (hv : ∀ i : Int, 0 ≤ i → i < 3 → s 26 0 i = B i ∧ s 26 1 i = L i) (hL : ∀ i, 0 ≤ i → i < 3 → 0 ≤ L i ∧ L i ≤ 40)
    (h : ∀ t, FrJ 26 (fun j => 6 ≤ j ∧ j ≤ 8) s t → t 26 6 0 = (cE order (kpO w tw th m L) B L (xvO w tw th order m L)).1 → t 26 7 0 = (cE order (kpO w tw th m L) B L (xvO w tw th order m L)).2 / gcE 200 (tw ^ m) (cE order (kpO w tw th m L) B L (xvO w tw th order m L)).2 → t 26 8 0 = tw ^ m / gcE 200 (tw ^ m) (cE order (kpO w tw th m L) B L (xvO w tw th order m L)).2 → Q t) : W_wp_work order (m : Int) s Q := by
  have hx := fun i => xvO_bd (th := th) hW ho hm L i
  have hpw := pow_tw hW.2.2 m hm
  have hkb := pm_b4 (th := th) hW m hm (L 0) (L 1) (L 2)
  have hcb := fun i => cF_bd (order := order) (B := B) (L := L) hx i
  refine w_wp_work (b_wp_work_0 ?_)
  intro s1 x1 s2 x2
  obtain ⟨a1, a2, a3⟩ := updM_f x1
  obtain ⟨b1, b2, b3⟩ := updM_f x2
  have stW : ∀ {t}, FrJ 26 (fun j => 6 ≤ j ∧ j ≤ 8) s t → WPs t w tw th := fun {t} hF => by
    obtain ⟨e2, e3, e4, e5⟩ := hP
    exact ⟨by rw [hF.2 2 (by omega)]; exact e2, by rw [hF.2 3 (by omega)]; exact e3, by rw [hF.2 4 (by omega)]; exact e4, by rw [hF.2 5 (by omega)]; exact e5⟩
  have loop : ∀ d i : Nat, 3 - i = d → i ≤ 3 → ∀ t, FrJ 26 (fun j => 6 ≤ j ∧ j ≤ 8) s t → t 26 6 0 = (cF order B L (xvO w tw th order m L) i).1 → t 26 7 0 = (cF order B L (xvO w tw th order m L) i).2 → K_wp_work_14 Q order (m : Int) (i : Int) t := by
    intro d
    induction d with
    | zero =>
      intro i hd hi t hF h6 h7
      have e : i = 3 := by omega
      subst e
      have hWt := stW hF
      refine b_wp_work_14 ?_
      unfold T_wp_work_14 T_wp_work_106
      refine ⟨fun _ => ?_, fun z => absurd (by decide) z⟩
      rw [hF.2 1 (by omega), (hv 0 (by omega) (by omega)).2, (hv 1 (by omega) (by omega)).2, (hv 2 (by omega) (by omega)).2]
      refine p_wp_mean hW hWt hth m 5 hm (by omega) _ _ _ _ (hL 0 (by omega) (by omega)) (hL 1 (by omega) (by omega)) (hL 2 (by omega) (by omega)) ?_
      have ek : pm w tw th m (L 0) (L 1) (L 2) = kpO w tw th m L := rfl
      rw [ek] at hkb ⊢
      have h3 := hcb 3
      have kE : cE order (kpO w tw th m L) B L (xvO w tw th order m L) = if (cF order B L (xvO w tw th order m L) 3).2 < kpO w tw th m L then (-1, kpO w tw th m L) else cF order B L (xvO w tw th order m L) 3 := rfl
      rw [kE] at h
      rw [lcp_le, wL_nn (x := kpO w tw th m L) (by omega), h7, wL_id (x := (cF order B L (xvO w tw th order m L) 3).2) (by omega) (by omega)]
      generalize cF order B L (xvO w tw th order m L) 3 = r at h h3 h6 h7 ⊢
      generalize kpO w tw th m L = kk at h hkb ⊢
      have done : ∀ (u : Mem) (r' : Int × Int), FrJ 26 (fun j => 6 ≤ j ∧ j ≤ 8) s u → u 26 6 0 = r'.1 → u 26 7 0 = r'.2 → (0 ≤ r'.2 ∧ r'.2 ≤ 100000000000) → (if r.2 < kk then (-1, kk) else r) = r' → T_wp_work_149 Q (m : Int) u := fun u r' hFu g6 g7 hr he => by
        rw [he] at h
        unfold T_wp_work_149
        rw [wr_id (x := (m : Int)) (by omega) (by omega), hFu.2 5 (by omega), hP.2.2.2 m hm]
        refine ⟨by omega, fun v xv => ?_⟩
        obtain ⟨c1, c2, c3⟩ := updM_f xv
        refine p_wp_shorten (A := r'.2) (B := tw ^ m) (by rw [c2 7 (by omega), g7]) (by rw [c3, uA_s]) (by omega) (by omega) (fun z hFz z7 z8 => ?_)
        exact h z ((hFu.tr ⟨c1, fun j q => c2 j (by omega)⟩).tr (hFz.mono (fun j q => by omega))) (by rw [hFz.2 6 (by omega), c2 6 (by omega), g6]) z7 z8
      refine ⟨fun c => done t r hF h6 h7 (by omega) (if_neg (by omega)), fun c => ?_⟩
      intro s4 x4 s5 x5
      obtain ⟨c1, c2, c3⟩ := updM_f x4
      obtain ⟨d1, d2, d3⟩ := updM_f x5
      exact done s5 (-1, kk) (hF.tr ⟨fun o q => by rw [d1 o q, c1 o q], fun j q => by rw [d2 j (by omega), c2 j (by omega)]⟩) (by rw [d2 6 (by omega), c3]; exact uA_s _ _ _) (by rw [d3]; exact uA_s _ _ _) ⟨hkb.1, by show kk ≤ _; omega⟩ (if_pos (by omega))
    | succ d ih =>
      intro i hd hi t hF h6 h7
      have hWt := stW hF
      have hLi := hL i (by omega) (by omega)
      have ih := ih (i + 1) (by omega) (by omega)
      have es : cF order B L (xvO w tw th order m L) (i + 1) = if L (i : Int) < order then cF order B L (xvO w tw th order m L) i else if (cF order B L (xvO w tw th order m L) i).2 < xvO w tw th order m L (i : Int) then (B (i : Int), xvO w tw th order m L (i : Int)) else cF order B L (xvO w tw th order m L) i := rfl
      rw [es, show ((i + 1 : Nat) : Int) = (i : Int) + 1 by omega] at ih
      refine b_wp_work_14 ?_
      unfold T_wp_work_14 T_wp_work_100
      rw [wr_id (x := (i : Int)) (by omega) (by omega), wr_id (x := order) (by omega) (by omega), hF.2 1 (by omega), (hv i (by omega) (by omega)).2, wr_id (x := L (i : Int)) (by omega) (by omega)]
      refine ⟨fun z => by omega, fun _ => ⟨by omega, fun c => ?_, fun c => ?_⟩⟩
      · rw [if_neg (by omega)] at ih
        have hLt : ∀ i, 0 ≤ i → i < 3 → t 26 1 i = L i ∧ 0 ≤ L i ∧ L i ≤ 40 := fun j j0 j1 => ⟨by rw [hF.2 1 (by omega)]; exact (hv j j0 j1).2, hL j j0 j1⟩
        unfold T_wp_work_32 T_wp_work_100
        rw [wr_id (x := (m : Int)) (by omega) (by omega), wr_id (x := order) (by omega) (by omega)]
        refine p_wp_rest hWt.1 hLt (by omega) (by omega) hth ho (p_wp_rest hWt.1 hLt (by omega) (by omega) hth ho (p_wp_rest hWt.1 hLt (by omega) (by omega) hth ho (p_wp_mean hW hWt hth m 5 hm (by omega) _ _ _ _ (rsO_bd hth.1 ho.1 (hL 0 (by omega) (by omega))) (rsO_bd hth.1 ho.1 (hL 1 (by omega) (by omega))) (rsO_bd hth.1 ho.1 (hL 2 (by omega) (by omega))) ?_)))
        refine ⟨by omega, ?_⟩
        intro x9 e9
        rw [hWt.2.2.2 m hm] at e9
        have e9 : x9 = xvO w tw th order m L (i : Int) := e9
        have hci := hcb i
        have hxi := hx i
        rw [lcp_le, e9, wL_nn (x := xvO w tw th order m L (i : Int)) (by omega), h7, wL_id (x := (cF order B L (xvO w tw th order m L) i).2) (by omega) (by omega), wr_id (x := (i : Int)) (by omega) (by omega)]
        refine ⟨fun c2 => ?_, fun c2 => ⟨by omega, fun s11 x11 s12 x12 => ?_⟩⟩
        · rw [if_neg (by omega)] at ih
          exact ih t hF h6 h7
        · obtain ⟨c1, d2, c3⟩ := updM_f x11
          obtain ⟨d1, f2, d3⟩ := updM_f x12
          rw [if_pos (by omega)] at ih
          exact ih s12 (hF.tr ⟨fun o q => by rw [d1 o q, c1 o q], fun j q => by rw [f2 j (by omega), d2 j (by omega)]⟩) (by rw [f2 6 (by omega), c3, hF.2 0 (by omega), (hv i (by omega) (by omega)).1]; exact uA_s _ _ _) (by rw [d3]; exact uA_s _ _ _)
      · rw [if_pos (by omega)] at ih
        exact ih t hF h6 h7
  exact loop 3 0 (by omega) (by omega) s2 ⟨fun o q => by rw [b1 o q, a1 o q], fun j q => by rw [b2 j (by omega), a2 j (by omega)]⟩ (by rw [b2 6 (by omega), a3]; exact uA_s _ _ _) (by rw [b3]; exact uA_s _ _ _)
