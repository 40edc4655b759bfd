/-! ===== SHOP: the reference's CLAUSES ===== -/
def OnR (tl : Int → Int) (v : Mem) : Prop := ∃ x : Nat, x < 128 ∧ v 34 42 0 = (x : Int) ∧ ∀ k : Nat, k = 2 ∨ k = 3 ∨ k = 4 ∨ k = 6 → tl (k : Int) = if Nat.testBit x k = true then 1 else 0
theorem or_dec : ∀ k : Nat, k < 7 → ∀ x : Nat, x < 128 → bOr (x : Int) (bShl 1 (k : Int)) = ((x ||| 2 ^ k : Nat) : Int) ∧ (x ||| 2 ^ k) < 128 := by decide +kernel
def shK (j : Nat) : Prop := shJ j ∨ j = 42
theorem p_md_shopWord {k : Int} {v : Mem} {Q : Nat → Mem → Prop} (hk : 0 ≤ k ∧ k ≤ 6) (h : Q (22 + 2 * k.toNat) v) : W_md_shopWord k v Q := by
  refine w_md_shopWord (b_md_shopWord_0 ?_)
  unfold T_md_shopWord_0 T_md_shopWord_40 T_md_shopWord_43 T_md_shopWord_46 T_md_shopWord_49 T_md_shopWord_52 T_md_shopWord_55 T_md_shopWord_58
  rw [wr_id (x := k) (by omega) (by omega)]
  refine ⟨⟨fun q => ?_, fun q => ?_, fun q => ?_, fun q => ?_, fun q => ?_, fun q => ?_, trivial⟩, fun q => ?_⟩
  · subst q; exact h
  · subst q; exact h
  · subst q; exact h
  · subst q; exact h
  · subst q; exact h
  · subst q; exact h
  · have e : k = 6 := by omega
    subst e; exact h
theorem p_md_isFull {x n : Int} {tl : Int → Int} {D : Nat → Int → Int} {v : Mem} {Q : Int → Mem → Prop} (hx : 0 ≤ x ∧ x ≤ 6) (hn : 0 ≤ n ∧ n ≤ 100) (hR : RSh D (MN v)) (hD : DOK2 D tl) (h1 : v 34 12 1 = tl 1) (hO : OnR tl v) (h : Q (b2 (n = 32 ∨ cval 1 x ≤ tl x)) v) : W_md_isFull x n v Q := by
  obtain ⟨⟨d1, d2, d3⟩, d4, d5, d6⟩ := hD
  have ht := d3 x hx.1 hx.2
  refine w_md_isFull (b_md_isFull_0 ?_)
  unfold T_md_isFull_0 T_md_isFull_8
  rw [wr_id (x := n) (by omega) (by omega), wr_id (x := x) (by omega) (by omega)]
  have e0 : v 34 12 0 = tl 0 := by rw [d4]; exact hR.1.2.1.symm
  have e5 : v 34 12 5 = tl 5 := by rw [d6]; exact hR.2.2.2.1.1.symm
  refine ⟨fun c => ⟨fun q => ?_, fun q => ⟨fun q1 => ?_, fun q1 => ⟨fun q5 => ?_, fun q5 => ?_⟩⟩⟩, fun c => ?_⟩
  · subst q
    have c12 : cval 1 0 = 12 := rfl
    unfold T_md_isFull_44 T_md_isFull_59 T_md_isFull_60
    rw [show wr 0 = 0 from rfl, e0, wr_id (x := tl 0) (by omega) (by omega)]
    refine ⟨by decide, fun z => ?_, fun z => ?_⟩
    · rw [b2_f (by omega)] at h
      exact ⟨Or.inl rfl, h⟩
    · rw [b2_t (by omega)] at h
      exact ⟨Or.inr rfl, h⟩
  · subst q1
    have c16 : cval 1 1 = 16 := rfl
    unfold T_md_isFull_61 T_md_isFull_76 T_md_isFull_77
    rw [show wr 1 = 1 from rfl, h1, wr_id (x := tl 1) (by omega) (by omega)]
    refine ⟨by decide, fun z => ?_, fun z => ?_⟩
    · rw [b2_f (by omega)] at h
      exact ⟨Or.inl rfl, h⟩
    · rw [b2_t (by omega)] at h
      exact ⟨Or.inr rfl, h⟩
  · subst q5
    have c8 : cval 1 5 = 8 := rfl
    unfold T_md_isFull_78 T_md_isFull_93 T_md_isFull_94
    rw [show wr 5 = 5 from rfl, e5, wr_id (x := tl 5) (by omega) (by omega)]
    refine ⟨by decide, fun z => ?_, fun z => ?_⟩
    · rw [b2_f (by omega)] at h
      exact ⟨Or.inl rfl, h⟩
    · rw [b2_t (by omega)] at h
      exact ⟨Or.inr rfl, h⟩
  · obtain ⟨y, hy, ey, hb⟩ := hO
    obtain ⟨k, rfl⟩ : ∃ k : Nat, x = (k : Int) := ⟨x.toNat, by omega⟩
    have hk := hb k (by omega)
    have c1 : cval 1 (k : Int) = 1 := by
      rcases (show k = 2 ∨ k = 3 ∨ k = 4 ∨ k = 6 by omega) with z | z | z | z <;> subst z <;> rfl
    unfold T_md_isFull_95
    rw [ey]
    refine p_md_has (by omega) (by omega) ?_
    intro _
    rw [b2_eq (p := mem y (k : Int) = true) (q := n = 32 ∨ cval 1 (k : Int) ≤ tl (k : Int)) ?_]
    · exact h
    · rw [mem_k, hk, c1]
      constructor
      · intro z; rw [if_pos z]; omega
      · intro z
        refine Decidable.byContradiction fun w => ?_
        rw [if_neg w] at z
        omega
  · rw [b2_t (by omega)] at h
    exact h
theorem p_md_shopClause {T : Int → Int} {N p r p' : Int} {n : Int} {D D' : Nat → Int → Int} {tl tl' : Int → Int} {v : Mem} {Q : Mem → Prop} (hT : TX T N) (hp : 0 ≤ p ∧ p ≤ N) (hn : 0 ≤ n ∧ n ≤ 100) (hC : RX v T N p) (hf : v 34 34 0 = 0) (hR : RSh D (MN v)) (hD : DOK2 D tl) (h1 : v 34 12 1 = tl 1) (hO : OnR tl v) (hcl : clC T N (decide (n = 32)) p D tl r p' D' tl')
    (h : ∀ m q', FrJ 34 shK v m → (0 ≤ q' ∧ q' ≤ N) → RX m T N q' → m 34 34 0 = r → (r = 0 → q' = p' ∧ RSh D' (MN m) ∧ m 34 12 1 = tl' 1 ∧ OnR tl' m) → Q m) : W_md_shopClause n v Q := by
  have hN := hT.1
  have hnb := sc_bd (P := blT T) hp.2
  obtain ⟨x, hfw, hcase⟩ := hcl
  refine w_md_shopClause (b_md_shopClause_0 (p_md_blanks hT hC ⟨hp.1, by omega⟩ (fun m1 F1 C1 => ?_)))
  generalize sc (blT T) N p = a at hnb hfw hcase C1
  have hwe := sc_bd (P := ltT T) hnb.2
  have f1 : m1 34 34 0 = 0 := by rw [F1.2 34 (by omega)]; exact hf
  have Fk : ∀ {u w : Mem} {S : Nat → Prop}, FrJ 34 S u w → (∀ j, S j → shK j) → FrJ 34 shK u w := fun {u w S} hF hS => hF.mono hS
  have F1k : FrJ 34 shK v m1 := Fk F1 (fun j z => Or.inl (by unfold shJ; omega))
  have R1 : RSh D (MN m1) := by
    have e : ∀ b, b ≤ 9 → MN m1 b = MN v b := fun b hb => F1.2 _ (by omega)
    exact RSh_u hR (fun k _ _ => by rw [e 0 (by omega)]) (fun b b1 b9 => e b b9)
  rw [C1.2.1]
  -- which word
  have loop : ∀ d i : Nat, 7 - i = d → i ≤ 7 → fw T (sc (ltT T) N a) a (kws.drop i) (i : Int) x → K_md_shopClause_11 Q n a (i : Int) m1 := by
    intro d
    induction d with
    | zero =>
      intro i hd hi hw
      have e : i = 7 := by omega
      subst e
      have hx1 : x = -1 := hw
      refine b_md_shopClause_11 ?_
      unfold T_md_shopClause_11 T_md_shopClause_34
      refine ⟨fun _ => ⟨fun z => absurd z (by decide), fun _ => p_md_fails f1 (by omega) (fun m2 F2 e2 => ?_)⟩, fun z => absurd (by decide) z⟩
      have hr : r = 1 + 8 * a := by
        rcases hcase with ⟨_, z⟩ | ⟨z, _⟩ | ⟨z, _⟩
        · exact z
        · omega
        · omega
      refine h m2 a (F1k.tr (Fk F2 (fun j z => Or.inl (by unfold shJ; omega)))) (by omega) (C1.st F2 (by omega) (by omega) (by rw [F2.2 33 (by omega)]; exact C1.2.1)) (by rw [e2, hr]; unfold flt; rw [if_pos rfl]; omega) (fun z => by omega)
    | succ d ih =>
      intro i hd hi hw
      have hil : i < kws.length := by have : kws.length = 7 := rfl; omega
      have edr : kws.drop i = cvL.getD (22 + 2 * i + 1) [] :: kws.drop (i + 1) := by
        rcases (show i = 0 ∨ i = 1 ∨ i = 2 ∨ i = 3 ∨ i = 4 ∨ i = 5 ∨ i = 6 by omega) with z | z | z | z | z | z | z <;> subst z <;> rfl
      rw [edr] at hw
      have hck : ckind (22 + 2 * i) = 20 ∧ clen (22 + 2 * i + 1) < 1000 := by
        rcases (show i = 0 ∨ i = 1 ∨ i = 2 ∨ i = 3 ∨ i = 4 ∨ i = 5 ∨ i = 6 by omega) with z | z | z | z | z | z | z <;> subst z <;> decide
      have hw : (wq T (sc (ltT T) N a) (cvL.getD (22 + 2 * i + 1) []) a ∧ x = (i : Int)) ∨ (¬ wq T (sc (ltT T) N a) (cvL.getD (22 + 2 * i + 1) []) a ∧ fw T (sc (ltT T) N a) a (kws.drop (i + 1)) ((i : Int) + 1) x) := hw
      refine b_md_shopClause_11 ?_
      unfold T_md_shopClause_11
      rw [wr_id (x := (i : Int)) (by omega) (by omega)]
      refine ⟨fun z => by omega, fun _ => p_md_shopWord (by omega) ?_⟩
      rw [show 22 + 2 * (i : Int).toNat = 22 + 2 * i by omega]
      refine p_md_stood hck.1 hck.2 hT C1 (by omega) (fun hq => ?_) (fun hq => ?_)
      · intro _
        refine br_t (by decide) ?_
        have ex : x = (i : Int) := by
          rcases hw with z | z
          · exact z.2
          · exact absurd hq z.1
        rw [← ex]
        have hx : 0 ≤ x ∧ x ≤ 6 := by omega
        unfold T_md_shopClause_34 T_md_shopClause_47
        rw [wr_id (x := x) (by omega) (by omega)]
        refine br_t hx.2 (p_md_isFull hx hn R1 hD (by rw [F1.2 12 (by omega)]; exact h1) (by obtain ⟨y, g1, g2, g3⟩ := hO; exact ⟨y, g1, by rw [F1.2 42 (by omega)]; exact g2, g3⟩) (zt (fun cf => p_md_fails f1 (by omega) (fun m2 F2 e2 => ?_)) (fun cf => ?_)))
        · have hr : r = 1 + 8 * a + 4 := by
            rcases hcase with ⟨z, _⟩ | ⟨_, _, z⟩ | ⟨_, z, _⟩
            · omega
            · exact z
            · exact absurd (cf.elim (fun y => Or.inl (decide_eq_true y)) Or.inr) z
          refine h m2 a (F1k.tr (Fk F2 (fun j z => Or.inl (by unfold shJ; omega)))) (by omega) (C1.st F2 (by omega) (by omega) (by rw [F2.2 33 (by omega)]; exact C1.2.1)) (by rw [e2, hr]; unfold flt; rw [if_pos rfl]) (fun z => by omega)
        · have hthird : ¬ (decide (n = 32) = true ∨ cval 1 x ≤ tl x) ∧ r = fFS T N (sc (ltT T) N a) x D (nbK x) ∧ (r = 0 → p' = cuS T N (sc (ltT T) N a) (nbK x) ∧ D' = kpD x (tl x) (vaS T N (sc (ltT T) N a)) D ∧ tl' = uA tl x (tl x + 1)) := by
            rcases hcase with ⟨z, _⟩ | ⟨_, z, _⟩ | ⟨_, z⟩
            · omega
            · exact absurd (z.elim (fun y => Or.inl (decide_eq_true_iff.mp y)) Or.inr) cf
            · exact z
          obtain ⟨hno, hr, hr0⟩ := hthird
          obtain ⟨y, hy, ey, hyb⟩ := hO
          have od := or_dec i (by omega) y hy
          unfold T_md_shopClause_63
          intro s1 x1
          obtain ⟨b1, b2, b3⟩ := updM_f x1
          rw [ex] at b3
          rw [F1.2 42 (by omega), ey, od.1] at b3
          refine p_md_shopWord hx ?_
          rw [show 22 + 2 * x.toNat = 22 + 2 * i by omega]
          refine p_js_length hck.1 hck.2 ?_
          intro s6 x6
          obtain ⟨k1, k2, k3⟩ := updM_f x6
          have hwl := wq_len hq
          have hcl : ((clen (22 + 2 * i + 1) : Nat) : Int) = ((cvL.getD (22 + 2 * i + 1) []).length : Nat) := rfl
          have e33 : s6 34 33 0 = sc (ltT T) N a := by
            rw [k3, uA_s, b2 33 (by omega), C1.2.1, hcl]
            exact hwl
          have Fs6 : FrJ 34 (fun j => j = 42 ∨ j = 33) m1 s6 := ⟨fun o z => by rw [k1 o z, b1 o z], fun j z => by rw [k2 j (by omega), b2 j (by omega)]⟩
          have C6 : RX s6 T N (sc (ltT T) N a) := C1.st Fs6 (by omega) (by omega) e33
          have R6 : RSh D (MN s6) := by
            have e : ∀ b, b ≤ 9 → MN s6 b = MN m1 b := fun b hb => Fs6.2 _ (by omega)
            exact RSh_u R1 (fun k _ _ => by rw [e 0 (by omega)]) (fun b b1 b9 => e b b9)
          refine p_md_shopPart hT (by omega) hx C6 (by rw [Fs6.2 34 (by omega)]; exact f1) R6 hD (by omega) (by rw [Fs6.2 12 (by omega), F1.2 12 (by omega)]; exact h1) (fun m q' Fm Qm Cm Em hm => ?_)
          refine h m q' (F1k.tr ((Fk Fs6 (fun j z => by unfold shK shJ; omega)).tr (Fk Fm (fun j z => Or.inl z)))) Qm Cm (by rw [Em, hr]) (fun z => ?_)
          obtain ⟨z1, z2, z3⟩ := hr0 z
          obtain ⟨g1, g2, g3⟩ := hm (by rw [← hr]; exact z)
          refine ⟨by rw [z1]; exact g1, by rw [z2]; exact g2, by rw [z3]; exact g3, ?_⟩
          rw [z3]
          refine ⟨y ||| 2 ^ i, od.2, ?_, fun k hk => ?_⟩
          · rw [Fm.2 42 (by unfold shJ; omega), k2 42 (by omega), b3, uA_s]
          · rw [Nat.testBit_or, Nat.testBit_two_pow]
            by_cases z : k = i
            · subst z
              rw [uA_e _ (by omega), ex]
              have hlt : ¬ cval 1 x ≤ tl x := fun w => hno (Or.inr w)
              have c1 : cval 1 x = 1 := by
                rw [ex]
                rcases hk with z | z | z | z <;> subst z <;> rfl
              have ht := hD.1.2.2 x hx.1 hx.2
              rw [← ex, decide_eq_true (show k = k from rfl), Bool.or_true, if_pos rfl]
              omega
            · rw [uA_n _ (by omega), hyb k hk, decide_eq_false (fun w => z w.symm), Bool.or_false]
      · intro _
        refine br_f (by decide) ?_
        have := ih (i + 1) (by omega) (by omega) (by
          rcases hw with z | z
          · exact absurd z.1 hq
          · rw [show ((i + 1 : Nat) : Int) = (i : Int) + 1 by omega]
            exact z.2)
        rw [show ((i + 1 : Nat) : Int) = (i : Int) + 1 by omega] at this
        exact this
  have := loop 7 0 (by omega) (by omega) hfw
  exact this
