/-! ===== MADE of the BASKET ===== -/
def AL (fl fw fv : Int → Int) (nf wd len x : Int) : Prop := ∃ T, wTb fl fw fv nf wd T 81 ∧ x = T len
theorem AL_bd {fl fw fv : Int → Int} {nf wd len x : Int} (h : AL fl fw fv nf wd len x) (hl : 0 ≤ len ∧ len ≤ 80) : 0 ≤ x ∧ x ≤ 1000000 := by
  obtain ⟨T, h1, rfl⟩ := h
  obtain ⟨-, a, b⟩ := h1 len hl.1 (by omega)
  omega
def fuN (n : Int) : Int → Bool := fun i => decide (0 ≤ i ∧ i < n)
theorem fuN_t {n i : Int} : fuN n i = true ↔ (0 ≤ i ∧ i < n) := decide_eq_true_iff
theorem VV_noel {W : Int} {a : Int → Int} {n : Nat} {el : Int → Bool} {q : Int → Int} {t : Int → Bool} (hW : 0 ≤ W ∧ W ≤ 999) (h : ∀ i, el i = false) : VV W a n el q t = SA a t n := by
  unfold VV
  have h2 : ∀ m : Nat, smL (fun l => GG W a n (lo el q t l)) m = 0 := by
    intro m
    induction m with
    | zero => rfl
    | succ m ih =>
      show smL (fun l => GG W a n (lo el q t l)) m + GG W a n (lo el q t (m : Int)) = 0
      rw [ih, GG_none hW (fun i => by unfold lo; rw [h, Bool.false_and, Bool.and_false])]
      rfl
  rw [h2]
  exact Int.add_zero _
def elN (pl : Int) (f : Int → Int) : Int → Bool := fun i => decide (0 < pl ∧ pl ≤ f i)
theorem p_fm_worth {s : Mem} {Q : Int → Mem → Prop} (h : Inv s)
    (hQ : ∀ t (A : Int → Int), FrJ 24 (fun _ => True) s t → (∀ i, 0 ≤ i → i < s 34 2 12 → AL (s 3 11) (s 3 12) (s 3 13) (s 3 14 0) (s 2 3 i) (s 2 2 i) (A i)) → Q (VV (s 34 2 7) A (s 34 2 12).toNat (elN (s 34 2 6) (s 2 2)) (s 2 4) (fuN (s 34 2 12))) t) : W_fm_worthOfBasket 2 s Q := by
  obtain ⟨⟨k1, k2, k3⟩, k4⟩ := Inv_end h
  obtain ⟨-, -, -, ⟨p1, p2, p3⟩, w1, w2, w3⟩ := Inv_sca h
  obtain ⟨f1, f2, f3, f4⟩ := Inv_frm h
  refine w_fm_worthOfBasket (b_fm_worthOfBasket_0 rfl ?_)
  have part2 : ∀ (A : Int → Int) (u : Mem), FrJ 24 (fun _ => True) s u → (∀ i, 0 ≤ i → i < s 34 2 12 → AL (s 3 11) (s 3 12) (s 3 13) (s 3 14 0) (s 2 3 i) (s 2 2 i) (A i) ∧ u 24 1 i = A i ∧ u 24 2 i = (if s 2 2 i < s 34 2 6 then 1 else 0)) → T_fm_worthOfBasket_85 Q 2 (SA A (fuN (s 34 2 12)) (s 34 2 12).toNat) u := by
    intro A u hF hA
    have eo : ∀ o, ¬ o = 24 → u o = s o := hF.1
    unfold T_fm_worthOfBasket_85 T_fm_worthOfBasket_97
    rw [show 2 + 1 = 3 from rfl, eo 3 (by omega), p1, wr_id (x := s 34 2 6) (by omega) (by omega)]
    have hbd : ∀ i, 0 ≤ i → i < s 34 2 12 → 0 ≤ A i ∧ A i ≤ 1000000 := fun i i0 i1 => AL_bd (hA i i0 i1).1 (by have := (k4 i i0 i1).1; omega)
    refine ⟨fun c => ?_, fun c => ?_⟩
    · have loop : ∀ l : Int, ∀ (g : Int) (t : Mem), 0 ≤ l → l ≤ 10 → FrJ 24 (fun j => j = 2) u t → (∀ i, 0 ≤ i → i < s 34 2 12 → t 24 2 i = 0 ∨ t 24 2 i = 1) → (∀ i, l ≤ s 2 4 i → t 24 2 i = u 24 2 i) → g = SA A (fuN (s 34 2 12)) (s 34 2 12).toNat + smL (fun l => GG (s 34 2 7) A (s 34 2 12).toNat (lo (elN (s 34 2 6) (s 2 2)) (s 2 4) (fuN (s 34 2 12)) l)) l.toNat → K_fm_worthOfBasket_99 Q 2 g l t := by
        refine fun l => ind_up (P := fun l => ∀ (g : Int) (t : Mem), 0 ≤ l → l ≤ 10 → FrJ 24 (fun j => j = 2) u t → (∀ i, 0 ≤ i → i < s 34 2 12 → t 24 2 i = 0 ∨ t 24 2 i = 1) → (∀ i, l ≤ s 2 4 i → t 24 2 i = u 24 2 i) → g = SA A (fuN (s 34 2 12)) (s 34 2 12).toNat + smL (fun l => GG (s 34 2 7) A (s 34 2 12).toNat (lo (elN (s 34 2 6) (s 2 2)) (s 2 4) (fuN (s 34 2 12)) l)) l.toNat → K_fm_worthOfBasket_99 Q 2 g l t) 10 (fun l ih g t l0 l1 hFt hpt hpl hg => ?_) l
        refine b_fm_worthOfBasket_99 rfl ?_
        unfold T_fm_worthOfBasket_99 T_fm_worthOfBasket_120
        rw [wr_id (x := l) (by omega) (by omega)]
        have to : ∀ o, ¬ o = 24 → t o = s o := fun o ho => by rw [hFt.1 o ho, eo o ho]
        have t1 : t 24 1 = u 24 1 := hFt.2 1 (by omega)
        refine ⟨fun c2 => ?_, fun c2 => ?_⟩
        · have el : l = 10 := by omega
          subst el
          have hh := hQ t A ⟨to, fun _ q => absurd trivial q⟩ (fun i i0 i1 => (hA i i0 i1).1)
          rw [hg]
          exact hh
        · refine p_fm_gainOfPairs (n := s 34 2 12) (W := s 34 2 7) (by rw [to 2 (by omega)]; exact k1) ⟨k2, k3⟩ (by omega) (by rw [to 3 (by omega)]; exact w1) ⟨w2, w3⟩ (fun i i0 i1 => by rw [t1, (hA i i0 i1).2.1]; exact hbd i i0 i1) hpt (fun i i0 i1 => by rw [to 2 (by omega)]; have := (k4 i i0 i1).2.2.1; omega) (fun v hFv hpv hqv => ?_)
          have eg : GG (s 34 2 7) (t 24 1) (s 34 2 12).toNat (uP t (s 34 2 12) l) = GG (s 34 2 7) A (s 34 2 12).toNat (lo (elN (s 34 2 6) (s 2 2)) (s 2 4) (fuN (s 34 2 12)) l) := by
            refine GG_cong (fun i i0 i1 => ⟨by rw [t1]; exact (hA i i0 (by omega)).2.1, ?_⟩)
            have h2 := (hA i i0 (by omega)).2.2
            unfold uP lo elN fuN
            rw [to 2 (by omega)]
            by_cases q : s 2 4 i = l
            · rw [hpl i (by omega), h2]
              by_cases z : s 2 2 i < s 34 2 6
              · rw [if_pos z, decide_eq_false (show ¬ (1 : Int) = 0 by decide), decide_eq_false (show ¬ (0 < s 34 2 6 ∧ s 34 2 6 ≤ s 2 2 i) by omega)]
              · rw [if_neg z, decide_eq_true (show (0 : Int) = 0 from rfl), decide_eq_true (show 0 < s 34 2 6 ∧ s 34 2 6 ≤ s 2 2 i by omega)]
            · rw [decide_eq_false q, Bool.and_false, Bool.and_false, Bool.and_false, Bool.and_false]
          rw [eg]
          refine ih (by omega) _ v (by omega) (by omega) (hFt.tr hFv) hpv (fun i hi => ?_) ?_
          · rw [hqv i (by rw [to 2 (by omega)]; omega), hpl i (by omega)]
          · rw [hg, show (l + 1).toNat = l.toNat + 1 by omega]
            show _ = _ + (smL _ l.toNat + _)
            rw [ei_nat l0]
            dsimp only
            omega
      exact loop 0 _ u (by omega) (by omega) FrJ.rf (fun i i0 i1 => by rw [(hA i i0 i1).2.2]; split <;> omega) (fun _ _ => rfl) (by show _ = _ + 0; omega)
    · have hh := hQ u A hF (fun i i0 i1 => (hA i i0 i1).1)
      rw [VV_noel ⟨w2, w3⟩ (fun i => by unfold elN; exact decide_eq_false (by omega))] at hh
      exact hh
  have loop : ∀ i : Int, ∀ (A : Int → Int) (t : Mem), 0 ≤ i → i ≤ s 34 2 12 → FrJ 24 (fun _ => True) s t → (∀ x, 0 ≤ x → x < i → AL (s 3 11) (s 3 12) (s 3 13) (s 3 14 0) (s 2 3 x) (s 2 2 x) (A x) ∧ t 24 1 x = A x ∧ t 24 2 x = (if s 2 2 x < s 34 2 6 then 1 else 0)) → K_fm_worthOfBasket_4 Q 2 (SA A (fuN (s 34 2 12)) i.toNat) i t := by
    refine fun i => ind_up (P := fun i => ∀ (A : Int → Int) (t : Mem), 0 ≤ i → i ≤ s 34 2 12 → FrJ 24 (fun _ => True) s t → (∀ x, 0 ≤ x → x < i → AL (s 3 11) (s 3 12) (s 3 13) (s 3 14 0) (s 2 3 x) (s 2 2 x) (A x) ∧ t 24 1 x = A x ∧ t 24 2 x = (if s 2 2 x < s 34 2 6 then 1 else 0)) → K_fm_worthOfBasket_4 Q 2 (SA A (fuN (s 34 2 12)) i.toNat) i t) (s 34 2 12) (fun i ih A t i0 i1 hF hA => ?_) i
    have eo : ∀ o, ¬ o = 24 → t o = s o := hF.1
    refine b_fm_worthOfBasket_4 rfl ?_
    unfold T_fm_worthOfBasket_4 T_fm_worthOfBasket_68 T_fm_worthOfBasket_69
    rw [show 2 + 1 = 3 from rfl, eo 2 (by omega), k1, wr_id (x := s 34 2 12) (by omega) (by omega), wr_id (x := i) (by omega) (by omega)]
    refine ⟨fun c => ?_, fun c => ⟨by omega, ?_⟩⟩
    · have ei : i = s 34 2 12 := by omega
      subst ei
      exact part2 A t hF hA
    · obtain ⟨⟨e1, e2, e3⟩, ⟨e4, e5, e6⟩, -⟩ := k4 i i0 (by omega)
      refine p_fm_lay rfl (by rw [eo 3 (by omega)]; exact f2) (wr_id (by omega) (by omega)) (fun t2 hF2 hT => ⟨by omega, ?_⟩)
      rw [eo 3 (by omega)] at hT
      have eo2 : ∀ o, ¬ o = 24 → t2 o = s o := fun o ho => by rw [hF2.1 o ho, eo o ho]
      rw [eo2 2 (by omega), wr_id (x := s 2 2 i) (by omega) (by omega)]
      refine ⟨by omega, by omega, fun s3 x3 => ⟨by omega, ?_⟩⟩
      obtain ⟨y1, y2, y3⟩ := updM_f x3
      rw [y1 3 (by omega), y1 2 (by omega), eo2 3 (by omega), eo2 2 (by omega), p1, wr_id (x := s 34 2 6) (by omega) (by omega), wr_id (x := s 2 2 i) (by omega) (by omega)]
      have go : ∀ b : Int, b = (if s 2 2 i < s 34 2 6 then 1 else 0) → (0 ≤ i ∧ i < 10) ∧ (b = 0 ∨ b = 1) ∧ ∀ s1, s1 = updM s3 24 2 i b → (0 ≤ i ∧ i < 10) ∧ K_fm_worthOfBasket_4 Q 2 (SA A (fuN (s 34 2 12)) i.toNat + s1 24 1 i) (i + 1) s1 := fun b hb => by
        refine ⟨by omega, by rw [hb]; split <;> omega, fun s1 x1 => ⟨by omega, ?_⟩⟩
        obtain ⟨z1, z2, z3⟩ := updM_f x1
        have v1 : s1 24 1 = uA (t 24 1) i (t2 24 0 (s 2 2 i)) := by rw [z2 1 (by omega), y3, hF2.2 1 (by omega)]
        have v2 : s1 24 2 = uA (t 24 2) i b := by rw [z3, y2 2 (by omega), hF2.2 2 (by omega)]
        have ih := ih (by omega) (uA A i (t2 24 0 (s 2 2 i))) s1 (by omega) (by omega) ⟨fun o q => by rw [z1 o q, y1 o q, eo2 o q], fun _ q => absurd trivial q⟩ (fun x x0 x1 => ?_)
        · have es : SA (uA A i (t2 24 0 (s 2 2 i))) (fuN (s 34 2 12)) (i + 1).toNat = SA A (fuN (s 34 2 12)) i.toNat + s1 24 1 i := by
            rw [show (i + 1).toNat = i.toNat + 1 by omega]
            show SA _ _ i.toNat + (if fuN (s 34 2 12) ((i.toNat : Nat) : Int) = true then uA A i _ ((i.toNat : Nat) : Int) else 0) = _
            rw [ei_nat i0, if_pos (fuN_t.mpr ⟨i0, by omega⟩), v1, uA_s, uA_s, SA_congr i.toNat (a' := A) (t' := fuN (s 34 2 12)) (fun x x0 x1 => ⟨uA_n _ (by omega), rfl⟩)]
          rw [es] at ih
          exact ih
        · rw [v1, v2]
          by_cases q : x = i
          · subst q
            rw [uA_s, uA_s, uA_s]
            exact ⟨⟨_, hT, rfl⟩, rfl, hb⟩
          · rw [uA_n _ q, uA_n _ q, uA_n _ q]
            exact hA x x0 (by omega)
      exact ⟨fun c2 => go 0 (by rw [if_neg (by omega)]), fun c2 => go 1 (by rw [if_pos (by omega)])⟩
  have := loop 0 (fun _ => 0) s (by omega) k2 FrJ.rf (fun x x0 x1 => by omega)
  exact this
/-! the reference's side -/
theorem VV_mono0 {W : Int} {a : Int → Int} {n : Nat} {el : Int → Bool} {q : Int → Int} {t : Int → Bool} (hW : 0 ≤ W ∧ W ≤ 999) (ha : aOK a t) (hn : n ≤ 10) : 0 ≤ VV W a n el q t ∧ VV W a n el q t ≤ 20000000 := by
  have h1 : ∀ m : Nat, 0 ≤ SA a t m ∧ SA a t m ≤ 1000000 * (m : Int) := by
    intro m
    induction m with
    | zero => exact ⟨Int.le_refl _, Int.le_refl _⟩
    | succ m ih =>
      show 0 ≤ SA a t m + (if t (m : Int) = true then a (m : Int) else 0) ∧ SA a t m + (if t (m : Int) = true then a (m : Int) else 0) ≤ _
      split
      · next h => have := ha _ h; omega
      · omega
  have h2 : ∀ u : Int → Bool, aOK a u → 0 ≤ GG W a n u ∧ GG W a n u ≤ 9990 := fun u hu => by
    refine ⟨GG_0 _ _ _ _, ?_⟩
    unfold GG
    rcases GM_ex W (PP a u n 0) 10 with q | ⟨j, j0, j1, j2⟩
    · omega
    · have := jW hW j1
      have h3 := PP_lin (a := a) (u := u) (c := 0) (by omega) (fun i z => (hu i z).1) n 0 (2 * j)
      rw [Int.zero_mul] at h3
      omega
  have h3 : ∀ m : Nat, 0 ≤ smL (fun l => GG W a n (lo el q t l)) m ∧ smL (fun l => GG W a n (lo el q t l)) m ≤ 9990 * (m : Int) := by
    intro m
    induction m with
    | zero => exact ⟨Int.le_refl _, Int.le_refl _⟩
    | succ m ih =>
      have := h2 _ (ha.lo el q (m : Int))
      show 0 ≤ smL (fun l => GG W a n (lo el q t l)) m + GG W a n (lo el q t (m : Int)) ∧ smL (fun l => GG W a n (lo el q t l)) m + GG W a n (lo el q t (m : Int)) ≤ _
      omega
  have e1 := h1 n
  have e2 := h3 10
  unfold VV
  omega
theorem p_md_pairOf {s : Mem} {n e o : Int} {Q : Int → Mem → Prop} (hn : 0 ≤ n ∧ n ≤ 10) (he : 0 ≤ e ∧ e < n) (ho : 0 ≤ o ∧ o < n) (hp : 0 ≤ s 34 2 6 ∧ s 34 2 6 ≤ 80) (hw : 0 ≤ s 34 2 7 ∧ s 34 2 7 ≤ 999) (hl : ∀ i, 0 ≤ i → i < n → (1 ≤ s 34 22 i ∧ s 34 22 i ≤ 80) ∧ 0 ≤ s 34 24 i ∧ s 34 24 i ≤ 9)
    (h : Q (prW (s 34 2 7) (elN (s 34 2 6) (s 34 22)) (s 34 24) e o) s) : W_md_pairOf e o s Q := by
  obtain ⟨l1, l2, l3⟩ := hl e he.1 he.2
  obtain ⟨m1, m2, m3⟩ := hl o ho.1 ho.2
  unfold prW elN at h
  refine w_md_pairOf (b_md_pairOf_0 ?_)
  unfold T_md_pairOf_0 T_md_pairOf_61 T_md_pairOf_62 T_md_pairOf_77 T_md_pairOf_78
  rw [wr_id (x := s 34 2 6) (by omega) (by omega), wr_id (x := e) (by omega) (by omega), wr_id (x := o) (by omega) (by omega), wr_id (x := s 34 24 e) (by omega) (by omega), wr_id (x := s 34 24 o) (by omega) (by omega), wr_id (x := s 34 22 e) (by omega) (by omega), wr_id (x := s 34 22 o) (by omega) (by omega)]
  have no : ¬ (0 < s 34 2 6 ∧ s 34 2 6 ≤ s 34 22 e ∧ s 34 2 6 ≤ s 34 22 o ∧ s 34 24 e = s 34 24 o) → (wr 0 = 0 → Q 0 s) ∧ (¬ wr 0 = 0 → Q (s 34 2 7) s) := fun c => by
    rw [if_neg (fun z => by
      have z1 := decide_eq_true_iff.mp z.1
      have z2 := decide_eq_true_iff.mp z.2.1
      exact c ⟨z1.1, z1.2, z2.2, z.2.2⟩)] at h
    exact ⟨fun _ => h, fun z => absurd (by decide) z⟩
  refine ⟨fun c => no (by omega), fun c => ⟨by omega, by omega, fun c2 => no (by omega), fun c2 => ⟨by omega, fun c3 => no (by omega), fun c3 => ⟨by omega, fun c4 => no (by omega), fun c4 => ?_⟩⟩⟩⟩
  rw [if_pos ⟨decide_eq_true (by omega), decide_eq_true (by omega), by omega⟩] at h
  exact ⟨fun z => absurd z (by decide), fun _ => h⟩
