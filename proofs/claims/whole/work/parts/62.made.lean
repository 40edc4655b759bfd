/-! ===== MADE: the class's side ===== -/
/-- the ENDS of a lot that are in no PAIR yet -/
def uP (s : Mem) (n : Int) (l : Int) : Int → Bool := fun i => decide (0 ≤ i ∧ i < n) && (decide (s 24 2 i = 0) && decide (s 2 4 i = l))
theorem uP_t {s : Mem} {n l i : Int} : uP s n l i = true ↔ ((0 ≤ i ∧ i < n) ∧ s 24 2 i = 0 ∧ s 2 4 i = l) := by
  unfold uP
  rw [Bool.and_eq_true, Bool.and_eq_true, decide_eq_true_iff, decide_eq_true_iff, decide_eq_true_iff]
theorem p_fm_leastAlone {n l b : Int} {s : Mem} {Q : Int → Mem → Prop} (en : s 2 6 0 = n) (hn : 0 ≤ n ∧ n ≤ 10) (hl : 0 ≤ l ∧ l ≤ 9) (wb : wr b = b) (ha : ∀ i, 0 ≤ i → i < n → 0 ≤ s 24 1 i ∧ s 24 1 i ≤ 1000000) (hp : ∀ i, 0 ≤ i → i < n → s 24 2 i = 0 ∨ s 24 2 i = 1) (hq : ∀ i, 0 ≤ i → i < n → 0 ≤ s 2 4 i ∧ s 2 4 i ≤ 9)
    (h : ∀ r, ((r = -1 ∧ ∀ i, uP s n l i = true → i = b) ∨ ((uP s n l r = true ∧ ¬ r = b) ∧ ∀ i, uP s n l i = true → ¬ i = b → s 24 1 r ≤ s 24 1 i)) → Q r s) : W_fm_leastAlone 2 l b s Q := by
  refine w_fm_leastAlone (b_fm_leastAlone_0 rfl ?_)
  have loop : ∀ i : Int, ∀ r : Int, 0 ≤ i → i ≤ n → ((r = -1 ∧ ∀ x, x < i → uP s n l x = true → x = b) ∨ ((uP s n l r = true ∧ ¬ r = b) ∧ ∀ x, x < i → uP s n l x = true → ¬ x = b → s 24 1 r ≤ s 24 1 x)) → K_fm_leastAlone_6 Q 2 l b r i s := by
    refine fun i => ind_up (P := fun i => ∀ r : Int, 0 ≤ i → i ≤ n → ((r = -1 ∧ ∀ x, x < i → uP s n l x = true → x = b) ∨ ((uP s n l r = true ∧ ¬ r = b) ∧ ∀ x, x < i → uP s n l x = true → ¬ x = b → s 24 1 r ≤ s 24 1 x)) → K_fm_leastAlone_6 Q 2 l b r i s) n (fun i ih r h0 h1 hI => ?_) i
    refine b_fm_leastAlone_6 rfl ?_
    have hr : -1 ≤ r ∧ r < 10 := by
      rcases hI with q | q
      · omega
      · have := (uP_t.mp q.1.1).1
        omega
    unfold T_fm_leastAlone_6 T_fm_leastAlone_78 T_fm_leastAlone_72 T_fm_leastAlone_45 T_fm_leastAlone_68 T_fm_leastAlone_72
    rw [en, wr_id (x := n) (by omega) (by omega), wr_id (x := i) (by omega) (by omega), wb, wr_id (x := l) (by omega) (by omega), wr_id (x := r) (by omega) (by omega)]
    refine ⟨fun c => h r ?_, fun c => ⟨by omega, ?_⟩⟩
    · rcases hI with ⟨q1, q2⟩ | ⟨q1, q2⟩
      · exact Or.inl ⟨q1, fun x hx => q2 x (by have := (uP_t.mp hx).1; omega) hx⟩
      · exact Or.inr ⟨q1, fun x hx => q2 x (by have := (uP_t.mp hx).1; omega) hx⟩
    · have hpi := hp i h0 (by omega)
      have hqi := hq i h0 (by omega)
      have hai := ha i h0 (by omega)
      have skip : ¬ (uP s n l i = true ∧ ¬ i = b) → K_fm_leastAlone_6 Q 2 l b r (i + 1) s := fun hno => by
        refine ih (by omega) r (by omega) (by omega) ?_
        rcases hI with ⟨q1, q2⟩ | ⟨q1, q2⟩
        · refine Or.inl ⟨q1, fun x x0 hx => ?_⟩
          by_cases z : x = i
          · rw [z]
            rw [z] at hx
            exact Decidable.byContradiction (fun y => hno ⟨hx, y⟩)
          · exact q2 x (by omega) hx
        · refine Or.inr ⟨q1, fun x x0 hx hxb => ?_⟩
          by_cases z : x = i
          · rw [z] at hx hxb
            exact absurd ⟨hx, hxb⟩ hno
          · exact q2 x (by omega) hx hxb
      rw [wr_id (x := s 24 2 i) (by omega) (by omega), wr_id (x := s 2 4 i) (by omega) (by omega), wr_id (x := s 24 1 i) (by omega) (by omega)]
      refine ⟨fun c2 => skip (fun z => c2 (uP_t.mp z.1).2.1), fun c2 => ⟨fun c3 => skip (fun z => z.2 c3), fun c3 => ⟨by omega, fun c4 => ?_, fun c4 => skip (fun z => c4 (uP_t.mp z.1).2.2)⟩⟩⟩
      have hui : uP s n l i = true := uP_t.mpr ⟨⟨h0, by omega⟩, by omega, c4⟩
      have take : (∀ x, x < i → uP s n l x = true → ¬ x = b → s 24 1 i ≤ s 24 1 x) → K_fm_leastAlone_6 Q 2 l b i (i + 1) s := fun hle => by
        refine ih (by omega) i (by omega) (by omega) (Or.inr ⟨⟨hui, c3⟩, fun x x0 hx hxb => ?_⟩)
        by_cases z : x = i
        · rw [z]; exact Int.le_refl _
        · exact hle x (by omega) hx hxb
      refine ⟨fun c5 => take (fun x x0 hx hxb => ?_), fun c5 => ⟨by omega, by omega, ?_⟩⟩
      · rcases hI with ⟨q1, q2⟩ | ⟨q1, q2⟩
        · exact absurd (q2 x x0 hx) hxb
        · have := (uP_t.mp q1.1).1
          omega
      · rcases hI with ⟨q1, q2⟩ | ⟨q1, q2⟩
        · exact absurd q1 c5
        · have har := ha r (uP_t.mp q1.1).1.1 (uP_t.mp q1.1).1.2
          rw [wr_id (x := s 24 1 r) (by omega) (by omega)]
          refine ⟨fun c6 => ih (by omega) r (by omega) (by omega) (Or.inr ⟨q1, fun x x0 hx hxb => ?_⟩), fun c6 => take (fun x x0 hx hxb => by have := q2 x x0 hx hxb; omega)⟩
          by_cases z : x = i
          · rw [z]; exact c6
          · exact q2 x (by omega) hx hxb
  exact loop 0 (-1) (by omega) hn.1 (Or.inl ⟨rfl, fun x x0 hx => by have := (uP_t.mp hx).1; omega⟩)
/-- how many there are -/
def cU (u : Int → Bool) : Nat → Int
  | 0 => 0
  | n + 1 => cU u n + (if u (n : Int) = true then 1 else 0)
theorem cU_0 (u : Int → Bool) : ∀ n : Nat, 0 ≤ cU u n ∧ cU u n ≤ n
  | 0 => by unfold cU; omega
  | n + 1 => by
    have := cU_0 u n
    unfold cU
    split <;> omega
theorem cU_um {u : Int → Bool} {o : Int} (ho : u o = true) : ∀ n : Nat, 0 ≤ o → o < n → cU u n = cU (um u o) n + 1 := by
  have e : ∀ (t : Int → Bool) (n : Nat), cU t n = SA (fun _ => 1) t n := by
    intro t n
    induction n with
    | zero => rfl
    | succ n ih =>
      show cU t n + _ = SA (fun _ => 1) t n + _
      rw [ih]
  intro n h0 h1
  rw [e, e]
  exact SA_um (a := fun _ => 1) ho n h0 h1
theorem p_fm_gainOfPairs {n l W : Int} {s : Mem} {Q : Int → Mem → Prop} (en : s 2 6 0 = n) (hn : 0 ≤ n ∧ n ≤ 10) (hl : 0 ≤ l ∧ l ≤ 9) (eW : s 3 16 0 = W) (hW : 0 ≤ W ∧ W ≤ 999) (ha : ∀ i, 0 ≤ i → i < n → 0 ≤ s 24 1 i ∧ s 24 1 i ≤ 1000000) (hp : ∀ i, 0 ≤ i → i < n → s 24 2 i = 0 ∨ s 24 2 i = 1) (hq : ∀ i, 0 ≤ i → i < n → 0 ≤ s 2 4 i ∧ s 2 4 i ≤ 9)
    (h : ∀ t, FrJ 24 (fun j => j = 2) s t → (∀ i, 0 ≤ i → i < n → t 24 2 i = 0 ∨ t 24 2 i = 1) → (∀ i, ¬ s 2 4 i = l → t 24 2 i = s 24 2 i) → Q (GG W (s 24 1) n.toNat (uP s n l)) t) : W_fm_gainOfPairs 2 l s Q := by
  refine w_fm_gainOfPairs (b_fm_gainOfPairs_0 rfl ?_)
  have loop : ∀ i : Int, ∀ (g : Int) (t : Mem), 0 ≤ i → FrJ 24 (fun j => j = 2) s t → (∀ i, 0 ≤ i → i < n → t 24 2 i = 0 ∨ t 24 2 i = 1) → (∀ i, ¬ s 2 4 i = l → t 24 2 i = s 24 2 i) → 2 * i + cU (uP t n l) n.toNat ≤ 10 → GG W (s 24 1) n.toNat (uP s n l) = g + GG W (s 24 1) n.toNat (uP t n l) → K_fm_gainOfPairs_5 Q 2 l g i t := by
    refine fun i => ind_up (P := fun i => ∀ (g : Int) (t : Mem), 0 ≤ i → FrJ 24 (fun j => j = 2) s t → (∀ i, 0 ≤ i → i < n → t 24 2 i = 0 ∨ t 24 2 i = 1) → (∀ i, ¬ s 2 4 i = l → t 24 2 i = s 24 2 i) → 2 * i + cU (uP t n l) n.toNat ≤ 10 → GG W (s 24 1) n.toNat (uP s n l) = g + GG W (s 24 1) n.toNat (uP t n l) → K_fm_gainOfPairs_5 Q 2 l g i t) 10 (fun i ih g t h0 hF hpt hpl hc hE => ?_) i
    have hc0 := cU_0 (uP t n l) n.toNat
    have e2 : t 2 = s 2 := hF.1 2 (by omega)
    have e1 : t 24 1 = s 24 1 := hF.2 1 (by omega)
    have hu : aOK (s 24 1) (uP t n l) := fun x hx => ha x (uP_t.mp hx).1.1 (uP_t.mp hx).1.2
    have done : GG W (s 24 1) n.toNat (uP t n l) = 0 → Q g t := fun hz => by
      have h := h t hF hpt hpl
      rw [hE, hz, Int.add_zero] at h
      exact h
    refine b_fm_gainOfPairs_5 rfl ?_
    unfold T_fm_gainOfPairs_5 T_fm_gainOfPairs_104 T_fm_gainOfPairs_43
    rw [wr_id (x := i) (by omega) (by omega)]
    refine ⟨fun c => by omega, fun c => ?_⟩
    refine p_fm_leastAlone (n := n) (by rw [e2]; exact en) hn hl (by decide) (by rw [e1]; exact ha) hpt (by rw [e2]; exact hq) (fun r hr => ?_)
    have hrb : -1 ≤ r ∧ r < 10 := by
      rcases hr with q | q
      · omega
      · have := (uP_t.mp q.1.1).1
        omega
    have wr' : wr r = r := wr_id (by omega) (by omega)
    refine p_fm_leastAlone (n := n) (by rw [e2]; exact en) hn hl wr' (by rw [e1]; exact ha) hpt (by rw [e2]; exact hq) (fun o ho => ?_)
    have hob : -1 ≤ o ∧ o < 10 := by
      rcases ho with q | q
      · omega
      · have := (uP_t.mp q.1.1).1
        omega
    rw [wr', wr_id (x := o) (by omega) (by omega)]
    rcases hr with ⟨r1, r2⟩ | ⟨⟨r1, r2⟩, r3⟩
    · refine ⟨fun _ => done (GG_none hW (fun x => ?_)), fun z => absurd r1 z⟩
      cases hx : uP t n l x with
      | false => rfl
      | true =>
        have := r2 x hx
        have := (uP_t.mp hx).1
        omega
    · have rr := (uP_t.mp r1).1
      refine br_f (by omega) ?_
      rcases ho with ⟨o1, o2⟩ | ⟨⟨o1, o2⟩, o3⟩
      · exact br_f (by omega) (done (GG_one hW hu r1 (by omega) o2))
      · have oo := (uP_t.mp o1).1
        refine br_t (by omega) ?_
        rw [e1] at r3 o3
        have hle := GG_least hW hu (n := n.toNat) (by omega) r1 o1 o2 (by omega) (by omega) (fun x hx => r3 x hx (by have := (uP_t.mp hx).1; omega)) o3
        have har := ha r rr.1 rr.2
        have hao := ha o oo.1 oo.2
        unfold T_fm_gainOfPairs_45 T_fm_gainOfPairs_77
        rw [show 2 + 1 = 3 from rfl, hF.1 3 (by omega), eW, e1, wr', wr_id (x := o) (by omega) (by omega)]
        refine ⟨by omega, by omega, ?_⟩
        rintro x1 rfl
        rw [wr_id (x := W - s 24 1 r - s 24 1 o) (by omega) (by omega)]
        refine ⟨fun c3 => ⟨by omega, fun s1 x1 => ⟨by omega, fun s2 x2 => ?_⟩⟩, fun c3 => ?_⟩
        · obtain ⟨y1, y2, y3⟩ := updM_f x1
          obtain ⟨z1, z2, z3⟩ := updM_f x2
          have v : s2 24 2 = uA (uA (t 24 2) r 1) o 1 := by rw [z3, y3]
          have eu : uP s2 n l = um (um (uP t n l) r) o := by
            funext x
            have e4 : s2 2 = t 2 := by rw [z1 2 (by omega), y1 2 (by omega)]
            unfold uP um
            rw [v, e4]
            by_cases q1 : x = o
            · subst q1
              rw [uA_s]
              simp
            · by_cases q2 : x = r
              · subst q2
                rw [uA_n _ q1, uA_s]
                simp
              · rw [uA_n _ q1, uA_n _ q2]
                simp [q1, q2]
          rw [if_pos c3] at hle
          have hc1 := cU_um r1 n.toNat rr.1 (by omega)
          have hc2 := cU_um (u := um (uP t n l) r) (o := o) (um_t.mpr ⟨o1, o2⟩) n.toNat oo.1 (by omega)
          refine ih (by omega) _ s2 (by omega) (hF.tr ⟨fun a q => by rw [z1 a q, y1 a q], fun j q => by rw [z2 j q, y2 j q]⟩) (fun x x0 x1 => ?_) (fun x hx => ?_) (by rw [eu]; omega) (by rw [eu]; omega)
          · rw [v]
            by_cases q1 : x = o
            · rw [uA_e _ q1]; exact Or.inr rfl
            · rw [uA_n _ q1]
              by_cases q2 : x = r
              · rw [uA_e _ q2]; exact Or.inr rfl
              · rw [uA_n _ q2]; exact hpt x x0 x1
          · have hr4 := (uP_t.mp r1).2.2
            have ho4 := (uP_t.mp o1).2.2
            rw [e2] at hr4 ho4
            rw [v, uA_n _ (fun z => hx (by rw [z]; exact ho4)), uA_n _ (fun z => hx (by rw [z]; exact hr4))]
            exact hpl x hx
        · rw [if_neg c3] at hle
          exact done hle
  exact loop 0 0 s (by omega) FrJ.rf hp (fun _ _ => rfl) (by have := cU_0 (uP s n l) n.toNat; omega) (by omega)
