/-! ===== RULE: the reference reads a CLAUSE ===== -/
/-- kept from omega's eyes -/
def Hid (P : Prop) : Prop := P
theorem Hid.mk {P : Prop} (h : P) : Hid P := h
theorem Hid.out {P : Prop} (h : Hid P) : P := h
def Off (v m : Mem) (x : Int) : Prop := ∀ j, 47 ≤ j → j ≤ 50 → ∀ i, ¬ i = x → m 34 j i = v 34 j i
theorem Off.fr {v m : Mem} {x : Int} {S : Nat → Prop} (h : FrJ 34 S v m) (hS : ∀ j, 47 ≤ j → j ≤ 50 → ¬ S j) : Off v m x := fun j j0 j1 i _ => by rw [h.2 j (hS j j0 j1)]
theorem Off.tr {v m u : Mem} {x : Int} (h : Off v m x) (h2 : Off m u x) : Off v u x := fun j j0 j1 i hi => (h2 j j0 j1 i hi).trans (h j j0 j1 i hi)
theorem Off.up {v m : Mem} {j : Nat} {x w : Int} (h : m = updM v 34 j x w) : Off v m x := fun j' _ _ i hi => by
  obtain ⟨_, a2, a3⟩ := updM_f h
  by_cases q : j' = j
  · rw [q, a3, uA_n _ hi]
  · rw [a2 j' q]
/-- rows that a CLAUSE may change -/
def rxJ (j : Nat) : Prop := rwJ j ∨ (47 ≤ j ∧ j ≤ 50)
theorem p_md_if {v : Mem} {T : Int → Int} {N p : Int} {Q : Int → Mem → Prop} (hT : TX T N) (hC : RX v T N p) (hp : 0 ≤ p ∧ p ≤ N) (hb : sc (blT T) N p = p)
    (h1 : wq T (sc (ltT T) N p) [105, 102] p → ∀ m, FrJ 34 (fun j => j = 33) v m → RX m T N (sc (ltT T) N p) → Q 1 m) (h0 : ¬ wq T (sc (ltT T) N p) [105, 102] p → ∀ m, FrJ 34 (fun j => j = 33) v m → RX m T N p → Q 0 m) : W_md_takes 20 v Q := by
  have hN := hT.1
  refine w_md_takes (b_md_takes_0 rfl (p_md_blanks hT hC ⟨hp.1, by omega⟩ (fun m F C => ?_)))
  rw [hb] at C
  refine p_md_stood (k := 20) rfl (by decide) hT C hp (fun hq => fun _ => br_f (by decide) ?_) (fun hq => fun _ => br_t (by decide) ?_)
  · have hlen := wq_len hq
    have hlen : p + 2 = sc (ltT T) N p := hlen
    refine p_js_length (k := 20) rfl (by decide) ?_
    unfold T_md_takes_27
    intro s1 x1
    obtain ⟨a1, a2, a3⟩ := updM_f x1
    have F1 : FrJ 34 (fun j => j = 33) m s1 := ⟨a1, fun j q => a2 j q⟩
    refine ⟨Or.inr rfl, h1 hq s1 (F.tr F1) (C.st F1 (by omega) (by omega) ?_)⟩
    rw [a3, uA_s, C.2.1, ← hlen]
    rfl
  · unfold T_md_takes_26 T_md_takes_27
    intro s1 x1
    obtain ⟨a1, a2, a3⟩ := updM_f x1
    have F1 : FrJ 34 (fun j => j = 33) m s1 := ⟨a1, fun j q => a2 j q⟩
    refine ⟨Or.inl rfl, h0 hq s1 (F.tr F1) (C.st F1 (by omega) (by omega) ?_)⟩
    rw [a3, uA_s, C.2.1]
    omega
theorem p_md_ruleClause {T : Int → Int} {N p c n ρ a r p' c' kd : Int} {E1 E2 : List (Int × Int)} {v : Mem} {Q : Mem → Prop} (hT : TX T N) (hρ : 0 ≤ ρ ∧ ρ < 6) (ha : 0 ≤ a ∧ a ≤ 12) (hZ : RZ v T N p c n ρ) (hf : v 34 34 0 = 0) (h38 : v 34 38 0 = 0) (hp : 0 ≤ p ∧ p ≤ N) (hc : 0 ≤ c ∧ c ≤ 60) (hn : 0 ≤ n ∧ 3 * n ≤ 14 * c) (hcl : clR T N (decide (a = 12)) p c r p' c' kd E1 E2)
    (h : ∀ m q', FrJ 34 rxJ v m → (0 ≤ q' ∧ q' ≤ N + 1) → RX m T N q' → m 34 34 0 = r → (0 ≤ r ∧ r ≤ 100000) → Low v m (300 * ρ + n) → Off v m (12 * ρ + a) → (r = 0 → RZ m T N p' c' (n + (E1.length : Int) + (E2.length : Int)) ρ ∧ m 34 38 0 = 0 ∧ RE v m (300 * ρ + n) (E1 ++ E2) ∧ m 34 47 (12 * ρ + a) = 1 - kd ∧ m 34 48 (12 * ρ + a) = n ∧ m 34 49 (12 * ρ + a) = n + (E1.length : Int) ∧ m 34 50 (12 * ρ + a) = n + (E1.length : Int) + (E2.length : Int)) → Q m) : W_md_ruleClause a v Q := by
  have hN := hT.1
  have hnb := sc_bd (P := blT T) hp.2
  refine w_md_ruleClause (b_md_ruleClause_0 (p_md_blanks hT hZ.1 ⟨hp.1, by omega⟩ (fun m1 F1 C1 => ?_)))
  unfold clR at hcl
  generalize sc (blT T) N p = b at hnb C1 hcl
  have hlt := sc_bd (P := ltT T) hnb.2
  have Z1 := hZ.low F1 C1
  have e1 : m1 34 34 0 = 0 := by rw [F1.2 34 (by omega)]; exact hf
  have G1 : FrJ 34 rxJ v m1 := F1.mono (fun j z => Or.inl (Or.inl z))
  have L1 : Low v m1 (300 * ρ + n) := Low.eq (F1.2 44 (by omega)) (F1.2 45 (by omega))
  have O1 : Off v m1 (12 * ρ + a) := Off.fr F1 (fun j _ _ => by omega)
  obtain ⟨x, hx, hcl⟩ := hcl
  rw [C1.2.1]
  -- a fault at the word
  have bad : ∀ k : Int, (0 ≤ k ∧ k ≤ 7) → r = 1 + 8 * b + k → W_md_fails k b m1 (fun s2 => Q s2) := fun k hk er => by
    refine p_md_fails e1 (by omega) (fun m2 F2 e2 => ?_)
    rw [flt_0] at e2
    exact h m2 b (G1.tr (F2.mono (fun j z => Or.inl (Or.inr (Or.inl z))))) (by omega) (C1.st F2 (by omega) (by omega) (by rw [F2.2 33 (by omega)]; exact C1.2.1)) (by omega) (by omega) (L1.tr (Low.eq (F2.2 44 (by omega)) (F2.2 45 (by omega))) (Int.le_refl _)) (O1.tr (Off.fr F2 (fun j _ _ => by omega))) (fun z => by omega)
  -- the clause is told
  have told : ∀ g : Int, (g = 1 ∧ x = 1) ∨ (g = 0 ∧ x = 0) → sc (ltT T) N b = b + 4 → T_md_ruleClause_38 Q a b g m1 := fun g hg hl4 => by
    unfold T_md_ruleClause_38
    rw [wr_id (x := a) (by omega) (by omega)]
    refine ⟨fun za => ?_, fun za => bad 4 (by omega) ?_⟩
    rotate_left
    · have hd : decide (a = 12) = true := decide_eq_true (Decidable.byContradiction za)
      rcases hcl with ⟨z, _⟩ | ⟨_, _, z⟩ | ⟨_, z, _⟩ | ⟨_, z, _⟩
      · omega
      · exact z
      · exact absurd hd z
      · exact absurd hd z
    have hcl : (x = 0 ∧ kd = 1 ∧ ∃ r1 p1 c1, smC T N (61 - c).toNat (-1) (-1) (sc (ltT T) N b) c r1 p1 c1 E1 ∧ ((¬ r1 = 0 ∧ r = r1) ∨ (r1 = 0 ∧ ∃ y, fw T (sc (ltT T) N p1) p1 [[105, 102]] 0 y ∧ ((y = -1 ∧ r = 0 ∧ p' = p1 ∧ c' = c1 ∧ E2 = []) ∨ (y = 0 ∧ teC T N (61 - c1).toNat (sc (ltT T) N p1) c1 [] r p' c' E2))))) ∨ (x = 1 ∧ kd = 0 ∧ E1 = [] ∧ teC T N (61 - c).toNat (sc (ltT T) N b) c [] r p' c' E2) := by
      rcases hcl with ⟨z, _⟩ | ⟨_, z, _⟩ | ⟨z1, _, z2, z3⟩ | ⟨z1, _, z2, z3, z4⟩
      · omega
      · exact absurd (of_decide_eq_true z) za
      · exact Or.inl ⟨z1, z2, z3⟩
      · exact Or.inr ⟨z1, z2, z3, z4⟩
    unfold T_md_ruleClause_51
    intro s1 x1
    obtain ⟨a1, a2, a3⟩ := updM_f x1
    have F2 : FrJ 34 (fun j => j = 33) m1 s1 := ⟨a1, fun j z => a2 j z⟩
    have C2 : RX s1 T N (sc (ltT T) N b) := C1.st F2 (by omega) (by omega) (by rw [a3, uA_s, C1.2.1, hl4])
    have Z2 := Z1.low F2 C2
    rw [Z2.2.2.2.1]
    have hidx : 0 ≤ 12 * ρ + a ∧ 12 * ρ + a < 72 := by omega
    have widx : wr (12 * ρ + a) = 12 * ρ + a := wr_id (by omega) (by omega)
    generalize hI : 12 * ρ + a = I at hidx widx h O1 ⊢
    have core : T_md_ruleClause_87 Q g I I g s1 := by
      unfold T_md_ruleClause_87
      rw [widx]
      refine ⟨hidx, fun s2 x2 => ?_⟩
      refine ⟨hidx, fun s3 x3 => ?_⟩
      obtain ⟨b1, b2, b3⟩ := updM_f x2
      obtain ⟨c1', c2', c3'⟩ := updM_f x3
      have F3 : FrJ 34 (fun j => j = 47 ∨ j = 48) s1 s3 := ⟨fun o z => by rw [c1' o z, b1 o z], fun j z => by rw [c2' j (by omega), b2 j (by omega)]⟩
      have C3 : RX s3 T N (sc (ltT T) N b) := C2.st F3 (by omega) (by omega) (by rw [F3.2 33 (by omega)]; exact C2.2.1)
      have Z3 : RZ s3 T N (sc (ltT T) N b) c n ρ := Z2.st F3 (by omega) (by omega) (by omega) (by omega) (by omega) (by omega) C3.2.1
      have e3 : s3 34 34 0 = 0 := by rw [F3.2 34 (by omega), F2.2 34 (by omega)]; exact e1
      have h3 : s3 34 38 0 = 0 := by rw [F3.2 38 (by omega), F2.2 38 (by omega), F1.2 38 (by omega)]; exact h38
      have G3 : FrJ 34 rxJ v s3 := (G1.tr (F2.mono (fun j z => Or.inl (Or.inl z)))).tr (F3.mono (fun j z => Or.inr (by omega)))
      have q44 : s3 34 44 = v 34 44 := by rw [F3.2 44 (by omega), F2.2 44 (by omega), F1.2 44 (by omega)]
      have q45 : s3 34 45 = v 34 45 := by rw [F3.2 45 (by omega), F2.2 45 (by omega), F1.2 45 (by omega)]
      have O3 : Off v s3 I := ((O1.tr (Off.fr F2 (fun j _ _ => by omega))).tr (Off.up x2)).tr (Off.up x3)
      have w47 : s3 34 47 I = g := by rw [c2' 47 (by omega), b3, uA_s]
      have w48 : s3 34 48 I = n := by rw [c3', uA_s, b2 37 (by omega)]; exact Z2.2.2.1
      -- the end of it
      have fin : ∀ (u : Mem) (q' : Int), FrJ 34 rxJ v u → (0 ≤ q' ∧ q' ≤ N + 1) → RX u T N q' → u 34 34 0 = r → (0 ≤ r ∧ r ≤ 100000) → Low v u (300 * ρ + n) → Off v u I → (r = 0 → RZ u T N p' c' (n + (E1.length : Int) + (E2.length : Int)) ρ ∧ u 34 38 0 = 0 ∧ RE v u (300 * ρ + n) (E1 ++ E2) ∧ u 34 47 I = 1 - kd ∧ u 34 48 I = n ∧ u 34 49 I = n + (E1.length : Int)) → T_md_ruleClause_143 Q I u := fun u q' i1 i2 i3 i4 i5 i6 i7 i8 => by
        unfold T_md_ruleClause_143
        rw [widx]
        refine ⟨hidx, fun s4 x4 => ?_⟩
        obtain ⟨d1, d2, d3⟩ := updM_f x4
        have F4 : FrJ 34 (fun j => j = 50) u s4 := ⟨d1, fun j z => d2 j z⟩
        refine h s4 q' (i1.tr (F4.mono (fun j z => Or.inr (by omega)))) i2 (i3.st F4 (by omega) (by omega) (by rw [d2 33 (by omega)]; exact i3.2.1)) (by rw [d2 34 (by omega)]; exact i4) i5 (i6.tr (Low.eq (d2 44 (by omega)) (d2 45 (by omega))) (Int.le_refl _)) (i7.tr (Off.up x4)) (fun z => ?_)
        obtain ⟨j1, j2, j3, j4, j5, j6⟩ := i8 z
        refine ⟨j1.st F4 (by omega) (by omega) (by omega) (by omega) (by omega) (by omega) (by rw [d2 33 (by omega)]; exact j1.1.2.1), by rw [d2 38 (by omega)]; exact j2, ⟨by rw [d2 44 (by omega)]; exact j3.1, by rw [d2 45 (by omega)]; exact j3.2⟩, by rw [d2 47 (by omega)]; exact j4, by rw [d2 48 (by omega)]; exact j5, by rw [d2 49 (by omega)]; exact j6, ?_⟩
        rw [d3, uA_s]
        exact j1.2.2.1
      -- the TEST
      have test : ∀ (u : Mem) (pt ct nt : Int), (g = 1 - kd) → FrJ 34 rxJ v u → RZ u T N pt ct nt ρ → u 34 34 0 = 0 → u 34 38 0 = 0 → (0 ≤ pt ∧ pt ≤ N) → (0 ≤ ct ∧ ct ≤ 60) → (0 ≤ nt ∧ 3 * nt ≤ 14 * ct + 3) → nt = n + (E1.length : Int) → RE v u (300 * ρ + n) E1 → Off v u I → u 34 47 I = g → u 34 48 I = n → u 34 49 I = nt → teC T N (61 - ct).toNat pt ct [] r p' c' E2 → T_md_ruleClause_139 Q I u := fun u pt ct nt hk i1 i2 i3 i4 i5 i6 i7 ent i8 i9 i10 i11 i12 hte => by
        unfold T_md_ruleClause_139
        refine p_md_test hT hρ hte i2 i3 i4 i5 i6 i7 (fun m q' j1 j2 j3 j4 j5 j6 j7 => ?_)
        have nr : ∀ j, 47 ≤ j → j ≤ 50 → ¬ rwJ j := fun j _ _ => by unfold rwJ; omega
        refine fin m q' (i1.tr (j1.mono (fun j z => Or.inl z))) j2 j3 j4 j5 (i8.low.tr j6 (by omega)) (i9.tr (Off.fr j1 nr)) (fun z => ?_)
        obtain ⟨k1, k2, k3⟩ := j7 z
        subst ent
        exact ⟨k1, k2, i8.tr (by rw [show 300 * ρ + n + (E1.length : Int) = 300 * ρ + (n + (E1.length : Int)) by omega]; exact k3), by rw [j1.2 47 (nr 47 (by omega) (by omega)), i10, hk], by rw [j1.2 48 (nr 48 (by omega) (by omega))]; exact i11, by rw [j1.2 49 (nr 49 (by omega) (by omega))]; exact i12⟩
      rcases hcl with ⟨hx0, hkd, r1, p1, c1, hs, hcl⟩ | ⟨hx1, hkd, hE1, hte⟩
      · -- from
        replace hcl := Hid.mk hcl
        have g0 : g = 0 := by omega
        subst g0
        refine br_f (by decide) (w_md_sum (b_md_sum_0 (w_md_term (b_md_term_0 ?_))))
        have pdm : pd (-1) = 0 := rfl
        have go := p_md_sumL (Q := fun s4 => T_md_ruleClause_107 Q 0 I s4) hT hρ _ (-1) (-1) (sc (ltT T) N b) c n r1 p1 c1 E1 s3 hs Z3 e3 (by omega) hc (by rw [pdm]; omega) (Or.inl rfl) (Or.inl rfl) (fun m q' i1 i2 i3 i4 i5 i6 i7 => ?_)
        · unfold SumV at go
          rw [AE_0, AE_0] at go
          exact go
        · have nr : ∀ j, 46 ≤ j → j ≤ 50 → ¬ rvJ j := fun j _ _ => by unfold rvJ; omega
          have G4 : FrJ 34 rxJ v m := G3.tr (i1.mono (fun j z => Or.inl (by unfold rvJ at z; unfold rwJ; omega)))
          unfold T_md_ruleClause_107
          rw [widx]
          refine ⟨hidx, fun s4 x4 => ?_⟩
          obtain ⟨d1, d2, d3⟩ := updM_f x4
          have F5 : FrJ 34 (fun j => j = 49) m s4 := ⟨d1, fun j z => d2 j z⟩
          have G5 : FrJ 34 rxJ v s4 := G4.tr (F5.mono (fun j z => Or.inr (by omega)))
          have O5 : Off v s4 I := (O3.tr (Off.fr i1 (fun j j0 j1 => nr j (by omega) j1))).tr (Off.up x4)
          have C5 : RX s4 T N q' := i3.st F5 (by omega) (by omega) (by rw [d2 33 (by omega)]; exact i3.2.1)
          have L5 : Low v s4 (300 * ρ + n) := ((Low.eq q44 q45 : Low v s3 (300 * ρ + n)).tr i6 (Int.le_refl _)).tr (Low.eq (d2 44 (by omega)) (d2 45 (by omega))) (Int.le_refl _)
          rw [d2 34 (by omega), i5, wr_id (x := r1) (by omega) (by omega)]
          rcases hcl.out with ⟨z, er⟩ | ⟨z, y, hy, hcm⟩
          · exact br_t z (fin s4 q' G5 (by omega) C5 (by rw [d2 34 (by omega), i5, er]) (by omega) L5 O5 (fun w => by omega))
          · subst z
            obtain ⟨Z4, R4⟩ := i7 rfl
            obtain ⟨k1, k2, k3, k4, _, _⟩ := smC_ok _ _ _ _ _ _ _ _ (show 0 ≤ sc (ltT T) N b ∧ sc (ltT T) N b ≤ N by omega) hc.1 (Or.inl rfl) (Or.inl rfl) hs
            rw [pdm] at k2
            have eq' : q' = p1 := by rw [← i3.2.1]; exact Z4.1.2.1
            subst eq'
            have Z5 : RZ s4 T N q' c1 (n + (E1.length : Int)) ρ := Z4.st F5 (by omega) (by omega) (by omega) (by omega) (by omega) (by omega) C5.2.1
            have R5 : RE v s4 (300 * ρ + n) E1 := ⟨by rw [d2 44 (by omega), R4.1, q44], by rw [d2 45 (by omega), R4.2, q45]⟩
            have w7 : s4 34 47 I = 0 := by rw [d2 47 (by omega), i1.2 47 (nr 47 (by omega) (by omega))]; exact w47
            have w8 : s4 34 48 I = n := by rw [d2 48 (by omega), i1.2 48 (nr 48 (by omega) (by omega))]; exact w48
            have w9 : s4 34 49 I = n + (E1.length : Int) := by rw [d3, uA_s]; exact Z4.2.2.1
            have h5 : s4 34 38 0 = 0 := by rw [d2 38 (by omega), i1.2 38 (by unfold rvJ; omega)]; exact h3
            have e5 : s4 34 34 0 = 0 := by rw [d2 34 (by omega)]; exact i5
            have hlt1 := sc_bd (P := ltT T) k3.2
            refine br_f (by decide) (br_f (by decide) (p_md_if hT C5 k3 k4 (fun hq w Fw Cw => ?_) (fun hq w Fw Cw => ?_)))
            · have y0 : y = 0 := by
                rcases hy with ⟨_, z⟩ | ⟨z, _⟩
                · exact z
                · exact absurd hq z
              have hte := (hcm.resolve_left (fun z => by omega)).2
              refine fun _ => br_f (by decide) (test w _ c1 (n + (E1.length : Int)) (by omega) (G5.tr (Fw.mono (fun j z => Or.inl (Or.inl z)))) (Z5.low Fw Cw) (by rw [Fw.2 34 (by omega)]; exact e5) (by rw [Fw.2 38 (by omega)]; exact h5) (by omega) (by omega) (by omega) rfl ⟨by rw [Fw.2 44 (by omega)]; exact R5.1, by rw [Fw.2 45 (by omega)]; exact R5.2⟩ (O5.tr (Off.fr Fw (fun j _ _ => by omega))) (by rw [Fw.2 47 (by omega)]; exact w7) (by rw [Fw.2 48 (by omega)]; exact w8) (by rw [Fw.2 49 (by omega)]; exact w9) hte)
            · have y0 : y = -1 := by
                rcases hy with ⟨z, _⟩ | ⟨_, z⟩
                · exact absurd z hq
                · exact z
              obtain ⟨_, hr0, hp', hc', hE2⟩ := hcm.resolve_right (fun z => by omega)
              subst hp' hc' hE2
              refine fun _ => br_t (by decide) (fin w p' (G5.tr (Fw.mono (fun j z => Or.inl (Or.inl z)))) (by omega) Cw (by rw [Fw.2 34 (by omega), e5, hr0]) (by omega) (L5.tr (Low.eq (Fw.2 44 (by omega)) (Fw.2 45 (by omega))) (Int.le_refl _)) (O5.tr (Off.fr Fw (fun j _ _ => by omega))) (fun _ => ⟨?_, by rw [Fw.2 38 (by omega)]; exact h5, ?_, by rw [Fw.2 47 (by omega), w7, hkd]; rfl, by rw [Fw.2 48 (by omega)]; exact w8, by rw [Fw.2 49 (by omega)]; exact w9⟩))
              · rw [show n + (E1.length : Int) + ((([] : List (Int × Int)).length : Nat) : Int) = n + (E1.length : Int) from Int.add_zero _]
                exact Z5.low Fw Cw
              · rw [List.append_nil]
                exact ⟨by rw [Fw.2 44 (by omega)]; exact R5.1, by rw [Fw.2 45 (by omega)]; exact R5.2⟩
      · -- give
        have g1 : g = 1 := by omega
        subst g1 hE1
        refine br_t (by decide) ?_
        unfold T_md_ruleClause_107
        rw [widx]
        refine ⟨hidx, fun s4 x4 => ?_⟩
        obtain ⟨d1, d2, d3⟩ := updM_f x4
        have F5 : FrJ 34 (fun j => j = 49) s3 s4 := ⟨d1, fun j z => d2 j z⟩
        rw [d2 34 (by omega), e3]
        have l0 : n + ((([] : List (Int × Int)).length : Nat) : Int) = n := Int.add_zero n
        refine br_f (by decide) (br_t (by decide) (test s4 _ c n (by omega) (G3.tr (F5.mono (fun j z => Or.inr (by omega)))) (Z3.st F5 (by omega) (by omega) (by omega) (by omega) (by omega) (by omega) (by rw [d2 33 (by omega)]; exact C3.2.1)) (by rw [d2 34 (by omega)]; exact e3) (by rw [d2 38 (by omega)]; exact h3) (by omega) hc (by omega) l0.symm (RE.eq (by rw [d2 44 (by omega), q44]) (by rw [d2 45 (by omega), q45])) (O3.tr (Off.up x4)) (by rw [d2 47 (by omega)]; exact w47) (by rw [d2 48 (by omega)]; exact w48) (by rw [d3, uA_s]; exact Z3.2.2.1) hte))
    unfold T_md_ruleClause_86
    rcases hg with ⟨z, _⟩ | ⟨z, _⟩
    · subst z
      exact br_f (by decide) core
    · subst z
      exact br_t (by decide) core
  refine p_md_stood (k := 36) rfl (by decide) hT C1 (by omega) (fun hq => fun _ => br_t (by decide) ?_) (fun hq => fun _ => br_f (by decide) (p_md_stood (k := 38) rfl (by decide) hT C1 (by omega) (fun hq2 => fun _ => br_t (by decide) ?_) (fun hq2 => fun _ => br_f (by decide) ?_)))
  · have hl := wq_len hq
    have hl : b + 4 = sc (ltT T) N b := hl
    have x1 : x = 1 := by
      rcases hx with ⟨z, _⟩ | ⟨_, ⟨_, z⟩ | ⟨z, _⟩⟩
      · have y1 : T b = 103 := hq.1
        have y2 : T b = 102 := z.1
        omega
      · exact z
      · exact absurd hq z
    exact told 1 (Or.inl ⟨rfl, x1⟩) hl.symm
  · have hl := wq_len hq2
    have hl : b + 4 = sc (ltT T) N b := hl
    have x0 : x = 0 := by
      rcases hx with ⟨_, z⟩ | ⟨z, _⟩
      · exact z
      · exact absurd hq2 z
    exact told 0 (Or.inr ⟨rfl, x0⟩) hl.symm
  · have xm : x = -1 := by
      rcases hx with ⟨z, _⟩ | ⟨_, ⟨z, _⟩ | ⟨_, z⟩⟩
      · exact absurd z hq2
      · exact absurd z hq
      · exact z
    refine bad 0 (by omega) ?_
    rcases hcl with ⟨_, z⟩ | ⟨z, _⟩ | ⟨z, _⟩ | ⟨z, _⟩
    · exact z
    · omega
    · omega
    · omega
