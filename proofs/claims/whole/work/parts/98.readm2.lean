/-! ===== RULE: the reference reads a SUM ===== -/
def AE (a : Int) (K : Mem → Prop) (s : Mem) : Prop := if a = -1 then K s else W_md_entered (kap a) 0 s K
def SumV (Q : Mem → Prop) (a1 a2 : Int) (v : Mem) : Prop := W_md_value v (AE a1 (fun s2 => W_md_blanks s2 (fun s3 => K_md_term_8 (AE a2 (K_md_sum_4 Q)) s3)))
theorem AE_0 {K : Mem → Prop} : AE (-1) K = K := by funext s; exact if_pos rfl
theorem AE_1 {a : Int} {K : Mem → Prop} (h : ¬ a = -1) : AE a K = fun s => W_md_entered (kap a) 0 s K := by funext s; exact if_neg h
theorem p_AE {a f : Int} {v : Mem} {T : Int → Int} {N p c n ρ : Int} {Q : Mem → Prop} (hZ : RZ v T N p c n ρ) (hf : v 34 34 0 = f) (hb : 0 ≤ f ∧ f ≤ 100000) (hn : f = 0 → (0 ≤ n ∧ n < 300) ∧ (0 ≤ ρ ∧ ρ < 6))
    (h : ∀ m, FrJ 34 rvJ v m → m 34 34 0 = f → RX m T N p → Low v m (300 * ρ + n) → (f = 0 → RZ m T N p c (n + pd a) ρ ∧ RE v m (300 * ρ + n) (opE a)) → Q m) : AE a Q v := by
  unfold AE
  unfold pd opE at h
  by_cases q : a = -1
  · rw [if_pos q]
    rw [if_pos q, if_pos q] at h
    exact h v FrJ.rf hf hZ.1 (fun _ _ => ⟨rfl, rfl⟩) (fun _ => ⟨by rw [show n + 0 = n by omega]; exact hZ, RE.eq rfl rfl⟩)
  · rw [if_neg q]
    rw [if_neg q, if_neg q] at h
    exact p_md_entered hZ hf hb rfl hn (fun m F e C L _ g => h m (F.mono (fun j z => by unfold rvJ; omega)) e C L g)
theorem RZ.low {v m : Mem} {T : Int → Int} {N p c n ρ q : Int} (h : RZ v T N p c n ρ) (hF : FrJ 34 (fun j => j = 33) v m) (hC : RX m T N q) : RZ m T N q c n ρ := h.st hF (by omega) (by omega) (by omega) (by omega) (by omega) (by omega) hC.2.1
/-- what a fault leaves: nothing more is entered -/
theorem p_md_sumB {f : Int} {v : Mem} {T : Int → Int} {N p : Int} {Q : Mem → Prop} (hT : TX T N) (hX : RX v T N p) (h41 : v 34 41 0 = 9) (hp : 0 ≤ p ∧ p ≤ N) (hf : v 34 34 0 = f) (hb : 0 ≤ f ∧ f ≤ 100000) (hne : ¬ f = 0)
    (h : ∀ m p', FrJ 34 rvJ v m → (0 ≤ p' ∧ p' ≤ N) → RX m T N p' → m 34 34 0 = f → (m 34 44 = v 34 44 ∧ m 34 45 = v 34 45) → Q m) : W_md_sum v Q := by
  have hN := hT.1
  refine w_md_sum (b_md_sum_0 (w_md_term (b_md_term_0 ?_)))
  refine p_md_value (c := v 34 39 0) (n := v 34 37 0) (ρ := v 34 35 0) hT ⟨hX, rfl, rfl, rfl, h41⟩ hp hf hb (fun z => absurd z hne) (fun m1 p1 F1 P1 C1 _ L1 e1 _ => ?_)
  obtain ⟨e1, e44, e45⟩ := e1 hne
  refine p_md_blanks hT C1 ⟨P1.1, by omega⟩ (fun m2 F2 C2 => ?_)
  have P2 := sc_bd (P := blT T) P1.2
  have F12 : FrJ 34 rvJ v m2 := F1.tr (F2.mono (fun j z => Or.inl z))
  have e2 : m2 34 34 0 = f := by rw [F2.2 34 (by omega)]; exact e1
  refine b_md_term_8 ?_
  unfold T_md_term_8 T_md_term_100
  rw [e2, wr_id (x := f) (by omega) (by omega)]
  refine br_t hne (b_md_sum_4 ?_)
  unfold T_md_sum_4 T_md_sum_67
  rw [e2, wr_id (x := f) (by omega) (by omega)]
  exact br_t hne (h m2 _ F12 (by omega) C2 e2 ⟨by rw [F2.2 44 (by omega)]; exact e44, by rw [F2.2 45 (by omega)]; exact e45⟩)
theorem btw_cs (x : Int) : (x = 42 ∧ btw x = 2) ∨ (x = 47 ∧ btw x = 3) ∨ (x = 37 ∧ btw x = 4) ∨ (x = 43 ∧ btw x = 5) ∨ (x = 45 ∧ btw x = 6) ∨ (¬ (x = 42 ∨ x = 47 ∨ x = 37 ∨ x = 43 ∨ x = 45) ∧ btw x = -1) := by
  unfold btw
  (repeat' split) <;> omega
theorem p_md_sumL {T : Int → Int} {N ρ : Int} {Q : Mem → Prop} (hT : TX T N) (hρ : 0 ≤ ρ ∧ ρ < 6) :
    ∀ (f : Nat) (a1 a2 p c n r p' c' : Int) (E : List (Int × Int)) (v : Mem), smC T N f a1 a2 p c r p' c' E → RZ v T N p c n ρ → v 34 34 0 = 0 → (0 ≤ p ∧ p ≤ N) → (0 ≤ c ∧ c ≤ 60) → (0 ≤ n ∧ n + pd a1 + pd a2 + 2 * (61 - c) ≤ 299) → (a1 = -1 ∨ a1 = 2 ∨ a1 = 3 ∨ a1 = 4) → (a2 = -1 ∨ a2 = 5 ∨ a2 = 6) →
    (∀ m q', FrJ 34 rvJ v m → (0 ≤ q' ∧ q' ≤ N) → RX m T N q' → (0 ≤ m 34 34 0 ∧ m 34 34 0 ≤ 100000) → m 34 34 0 = r → Low v m (300 * ρ + n) → (r = 0 → RZ m T N p' c' (n + (E.length : Int)) ρ ∧ RE v m (300 * ρ + n) E) → Q m) → SumV Q a1 a2 v
  | 0, _, _, _, _, _, _, _, _, _, _, hs, _, _, _, _, _, _, _, _ => absurd hs id
  | f + 1, a1, a2, p, c, n, r, p', c', E, v, hs, hZ, hf, hp, hc, hn, k1, k2, h => by
    have hN := hT.1
    have pd1 : 0 ≤ pd a1 ∧ pd a1 ≤ 1 := by unfold pd; split <;> omega
    have pd2 : 0 ≤ pd a2 ∧ pd a2 ≤ 1 := by unfold pd; split <;> omega
    obtain ⟨rv, pv, e, hv, hs⟩ := hs
    unfold SumV
    refine p_md_value hT hZ hp hf (by omega) (fun _ => ⟨by omega, hρ, by omega⟩) (fun m1 q1 F1 P1 C1 B1 L1 _ g1 => ?_)
    obtain ⟨e1, g1⟩ := g1 rfl rv pv e hv
    have z1 : RZ m1 T N q1 (m1 34 39 0) (m1 34 37 0) (m1 34 35 0) := ⟨C1, rfl, rfl, rfl, by rw [F1.2 41 (by unfold rvJ; omega)]; exact hZ.2.2.2.2⟩
    rcases hs with ⟨hr, hs⟩ | ⟨h0, hs⟩
    · -- the value has a fault
      have skip : ∀ (a : Int) (K : Mem → Prop) (m : Mem), ¬ m 34 34 0 = 0 → (0 ≤ m 34 34 0 ∧ m 34 34 0 ≤ 100000) → K m → AE a K m := fun a K m q qb hK => by
        unfold AE
        split
        · exact hK
        · refine w_md_entered (b_md_entered_0 ?_)
          unfold T_md_entered_0 T_md_entered_55
          rw [wr_id (x := m 34 34 0) (by omega) (by omega)]
          exact br_t q hK
      refine skip a1 _ m1 (by omega) (by omega) (p_md_blanks hT C1 ⟨P1.1, by omega⟩ (fun m2 F2 C2 => b_md_term_8 ?_))
      have P2 := sc_bd (P := blT T) P1.2
      have F12 : FrJ 34 rvJ v m2 := F1.tr (F2.mono (fun j z => Or.inl z))
      have e2 : m2 34 34 0 = rv := by rw [F2.2 34 (by omega)]; exact e1
      unfold T_md_term_8 T_md_term_100
      rw [wr_id (x := m2 34 34 0) (by omega) (by omega)]
      refine br_t (by omega) (skip a2 _ m2 (by omega) (by omega) (b_md_sum_4 ?_))
      unfold T_md_sum_4 T_md_sum_67
      rw [wr_id (x := m2 34 34 0) (by omega) (by omega)]
      exact br_t (by omega) (h m2 _ F12 (by omega) C2 (by omega) (by omega) (L1.tr (Low.eq (F2.2 44 (by omega)) (F2.2 45 (by omega))) (Int.le_refl _)) (fun w => by omega))
    · subst h0
      obtain ⟨v1, v2, v3, v4, v5⟩ := vlC_ok hp hv
      obtain ⟨hq1, Z1, R1⟩ := g1 rfl
      have hnb := sc_bd (P := blT T) v2.2
      refine p_AE Z1 e1 (by omega) (fun _ => ⟨by omega, hρ⟩) (fun m2 F2 e2 C2 L2 g2 => ?_)
      obtain ⟨Z2, R2⟩ := g2 rfl
      refine p_md_blanks hT C2 ⟨v2.1, by omega⟩ (fun m3 F3 C3 => ?_)
      have Z3 := Z2.low F3 C3
      have e3 : m3 34 34 0 = 0 := by rw [F3.2 34 (by omega)]; exact e2
      have F13 : FrJ 34 rvJ v m3 := (F1.tr F2).tr (F3.mono (fun j z => Or.inl z))
      have R3 : RE v m3 (300 * ρ + n) (e :: opE a1) := by
        have r2 : RE v m2 (300 * ρ + n) ([e] ++ opE a1) := R1.tr (by rw [show 300 * ρ + n + ((([e] : List (Int × Int)).length : Nat) : Int) = 300 * ρ + (n + 1) by show 300 * ρ + n + ((1 : Nat) : Int) = _; omega]; exact R2)
        exact ⟨by rw [F3.2 44 (by omega)]; exact r2.1, by rw [F3.2 45 (by omega)]; exact r2.2⟩
      have hbp := btw_pk (T := T) (N := N) (p := sc (blT T) N pv)
      generalize sc (blT T) N pv = b at hnb hbp C3 Z3 hs
      have hpk := pk_bd hT (p := b) (by omega)
      have l1 : ((e :: opE a1).length : Int) = 1 + pd a1 := by
        rw [List.length_cons, ← opE_len]
        omega
      have l2 := opE_len a2
      have sgn : ∀ (m : Mem) (Q' : Int → Mem → Prop), RX m T N b → Q' (pk T N b) m → W_md_sign m Q' := fun m Q' C hQ => p_md_sign hT C ⟨by omega, by omega⟩ hQ
      have bc := btw_cs (pk T N b)
      -- a product goes on
      have mul : ∀ op, (op = 2 ∨ op = 3 ∨ op = 4) → btw (pk T N b) = op → T_md_term_72 (AE a2 (K_md_sum_4 Q)) (kap op) m3 := fun op hop hbt => by
        have hbN := hbp (by omega)
        have pdo : pd op = 1 := if_neg (by omega)
        unfold T_md_term_72
        intro s1 x1
        obtain ⟨a1', a2', a3'⟩ := updM_f x1
        have F4 : FrJ 34 (fun j => j = 33) m3 s1 := ⟨a1', fun j z => a2' j z⟩
        have C4 : RX s1 T N (b + 1) := C3.st F4 (by omega) (by omega) (by rw [a3', uA_s, C3.2.1])
        rw [hbt] at hs
        have hs2 : ∃ E2, smC T N f op a2 (b + 1) (c + 1) r p' c' E2 ∧ E = (e :: opE a1) ++ E2 := by
          rcases hs with ⟨_, q⟩ | ⟨q, _⟩ | ⟨q, _⟩
          · exact q
          · omega
          · omega
        obtain ⟨E2, q1, q2⟩ := hs2
        have go := p_md_sumL (Q := Q) hT hρ f op a2 (b + 1) (c + 1) (n + 1 + pd a1) r p' c' E2 s1 q1 (Z3.low F4 C4) (by rw [F4.2 34 (by omega)]; exact e3) (by omega) (by omega) (by rw [pdo]; omega) (by omega) k2 (fun m q' i1 i2 i3 i4 i5 i6 i7 => ?_)
        · unfold SumV at go
          rw [AE_1 (a := op) (by omega)] at go
          exact go
        · have R4 : RE v s1 (300 * ρ + n) (e :: opE a1) := ⟨by rw [F4.2 44 (by omega)]; exact R3.1, by rw [F4.2 45 (by omega)]; exact R3.2⟩
          refine h m q' (F13.tr ((F4.mono (fun j z => Or.inl z)).tr i1)) i2 i3 i4 i5 (R4.low.tr i6 (by omega)) (fun z => ?_)
          obtain ⟨y1, y2⟩ := i7 z
          subst q2
          refine ⟨?_, R4.tr (by rw [l1, show 300 * ρ + n + (1 + pd a1) = 300 * ρ + (n + 1 + pd a1) by omega]; exact y2)⟩
          rw [List.length_append, show n + (((e :: opE a1).length + E2.length : Nat) : Int) = n + 1 + pd a1 + (E2.length : Int) by omega]
          exact y1
      -- the product is over
      have over : (btw (pk T N b) = 5 ∨ btw (pk T N b) = 6 ∨ btw (pk T N b) = -1) → AE a2 (K_md_sum_4 Q) m3 := fun hbt => by
        refine p_AE Z3 e3 (by omega) (fun _ => ⟨by omega, hρ⟩) (fun m4 F4 e4 C4 L4 g4 => b_md_sum_4 ?_)
        obtain ⟨Z4, R4⟩ := g4 rfl
        have F14 : FrJ 34 rvJ v m4 := F13.tr F4
        have R14 : RE v m4 (300 * ρ + n) ((e :: opE a1) ++ opE a2) := R3.tr (by rw [l1, show 300 * ρ + n + (1 + pd a1) = 300 * ρ + (n + 1 + pd a1) by omega]; exact R4)
        have l3 : (((e :: opE a1) ++ opE a2).length : Int) = 1 + pd a1 + pd a2 := by
          rw [List.length_append]
          omega
        have add : ∀ op, (op = 5 ∨ op = 6) → btw (pk T N b) = op → T_md_sum_43 Q (kap op) m4 := fun op hop hbo => by
          have hbN := hbp (by omega)
          have pdo : pd op = 1 := if_neg (by omega)
          have pdm : pd (-1) = 0 := rfl
          unfold T_md_sum_43
          intro s1 x1
          obtain ⟨a1', a2', a3'⟩ := updM_f x1
          have F5 : FrJ 34 (fun j => j = 33) m4 s1 := ⟨a1', fun j z => a2' j z⟩
          have C5 : RX s1 T N (b + 1) := C4.st F5 (by omega) (by omega) (by rw [a3', uA_s, C4.2.1])
          rw [hbo] at hs
          have hs2 : ∃ E2, smC T N f (-1) op (b + 1) (c + 1) r p' c' E2 ∧ E = ((e :: opE a1) ++ opE a2) ++ E2 := by
            rcases hs with ⟨q, _⟩ | ⟨_, q⟩ | ⟨q, _⟩
            · omega
            · exact q
            · omega
          obtain ⟨E2, q1, q2⟩ := hs2
          have go := p_md_sumL (Q := Q) hT hρ f (-1) op (b + 1) (c + 1) (n + 1 + pd a1 + pd a2) r p' c' E2 s1 q1 (Z4.low F5 C5) (by rw [F5.2 34 (by omega)]; exact e4) (by omega) (by omega) (by rw [pdo, pdm]; omega) (by omega) (by omega) (fun m q' i1 i2 i3 i4 i5 i6 i7 => ?_)
          · unfold SumV at go
            rw [AE_0, AE_1 (a := op) (by omega)] at go
            exact w_md_term (b_md_term_0 go)
          · have R5 : RE v s1 (300 * ρ + n) ((e :: opE a1) ++ opE a2) := ⟨by rw [F5.2 44 (by omega)]; exact R14.1, by rw [F5.2 45 (by omega)]; exact R14.2⟩
            refine h m q' (F14.tr ((F5.mono (fun j z => Or.inl z)).tr i1)) i2 i3 i4 i5 (R5.low.tr i6 (by omega)) (fun z => ?_)
            obtain ⟨y1, y2⟩ := i7 z
            subst q2
            refine ⟨?_, R5.tr (by rw [l3, show 300 * ρ + n + (1 + pd a1 + pd a2) = 300 * ρ + (n + 1 + pd a1 + pd a2) by omega]; exact y2)⟩
            rw [List.length_append, show n + ((((e :: opE a1) ++ opE a2).length + E2.length : Nat) : Int) = n + 1 + pd a1 + pd a2 + (E2.length : Int) by omega]
            exact y1
        have stop : btw (pk T N b) = -1 → Q m4 := fun hbo => by
          have hs2 : r = 0 ∧ p' = b ∧ c' = c + 1 ∧ E = (e :: opE a1) ++ opE a2 := by
            rcases hs with ⟨q, _⟩ | ⟨q, _⟩ | ⟨_, q⟩
            · omega
            · omega
            · exact q
          obtain ⟨q1, q2, q3, q4⟩ := hs2
          subst q1 q2 q3 q4
          refine h m4 p' F14 (by omega) C4 (by omega) e4 R14.low (fun _ => ⟨?_, R14⟩)
          rw [l3, show n + (1 + pd a1 + pd a2) = n + 1 + pd a1 + pd a2 by omega]
          exact Z4
        have add5 : pk T N b = 43 → T_md_sum_43 Q (kap 5) m4 := fun z => add 5 (by omega) (by rcases bc with q | q | q | q | q | q <;> omega)
        have add6 : pk T N b = 45 → T_md_sum_43 Q (kap 6) m4 := fun z => add 6 (by omega) (by rcases bc with q | q | q | q | q | q <;> omega)
        have stop : ¬ (pk T N b = 43 ∨ pk T N b = 45) → Q m4 := fun z => stop (by rcases bc with q | q | q | q | q | q <;> omega)
        unfold T_md_sum_4 T_md_sum_29 T_md_sum_42 T_md_sum_67
        rw [e4]
        refine br_f (by decide) (sgn m4 _ C4 ?_)
        rw [wr_id (x := pk T N b) (by omega) (by omega)]
        have k5 : kap 5 = 2 := rfl
        have k6 : kap 6 = 3 := rfl
        rw [k5] at add5
        rw [k6] at add6
        refine ⟨fun z => sgn m4 _ C4 ?_, fun z => sgn m4 _ C4 ?_⟩
        · rw [wr_id (x := pk T N b) (by omega) (by omega)]
          exact br_f (fun w => w z) (add5 z)
        · rw [wr_id (x := pk T N b) (by omega) (by omega)]
          refine ⟨fun w => stop (by omega), fun w => sgn m4 _ C4 ?_⟩
          rw [wr_id (x := pk T N b) (by omega) (by omega)]
          exact br_t z (add6 (Decidable.byContradiction w))
      have m2 : pk T N b = 42 → T_md_term_72 (AE a2 (K_md_sum_4 Q)) (kap 2) m3 := fun z => mul 2 (by omega) (by rcases bc with q | q | q | q | q | q <;> omega)
      have m3' : pk T N b = 47 → T_md_term_72 (AE a2 (K_md_sum_4 Q)) (kap 3) m3 := fun z => mul 3 (by omega) (by rcases bc with q | q | q | q | q | q <;> omega)
      have m4' : pk T N b = 37 → T_md_term_72 (AE a2 (K_md_sum_4 Q)) (kap 4) m3 := fun z => mul 4 (by omega) (by rcases bc with q | q | q | q | q | q <;> omega)
      rw [show kap 2 = 13 from rfl] at m2
      rw [show kap 3 = 14 from rfl] at m3'
      rw [show kap 4 = 15 from rfl] at m4'
      refine b_md_term_8 ?_
      unfold T_md_term_8 T_md_term_42 T_md_term_56 T_md_term_70 T_md_term_100
      rw [e3]
      have wp : wr (pk T N b) = pk T N b := wr_id (by omega) (by omega)
      -- which product
      have which : (pk T N b = 42 ∨ pk T N b = 47 ∨ pk T N b = 37) → W_md_sign m3 (fun r2 s1 => (¬ wr r2 = 42 → W_md_sign s1 (fun r2 s1 => (¬ wr r2 = 47 → T_md_term_72 (AE a2 (K_md_sum_4 Q)) 15 s1) ∧ (¬ (¬ wr r2 = 47) → T_md_term_72 (AE a2 (K_md_sum_4 Q)) 14 s1))) ∧ (¬ (¬ wr r2 = 42) → T_md_term_72 (AE a2 (K_md_sum_4 Q)) 13 s1)) := fun hz => by
        refine sgn m3 _ C3 ?_
        rw [wp]
        refine ⟨fun z => sgn m3 _ C3 ?_, fun z => m2 (Decidable.byContradiction z)⟩
        rw [wp]
        exact ⟨fun z2 => m4' (by omega), fun z2 => m3' (Decidable.byContradiction z2)⟩
      refine br_f (by decide) (sgn m3 _ C3 ?_)
      rw [wp]
      refine ⟨fun z => which (by omega), fun z => sgn m3 _ C3 ?_⟩
      rw [wp]
      refine ⟨fun z2 => which (by omega), fun z2 => sgn m3 _ C3 ?_⟩
      rw [wp]
      exact ⟨fun z3 => over (by rcases bc with q | q | q | q | q | q <;> omega), fun z3 => which (by omega)⟩
