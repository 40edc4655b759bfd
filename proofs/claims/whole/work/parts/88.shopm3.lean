/-! ===== SHOP: the reference reads on ===== -/
def goF (T : Int → Int) (N p f : Int) : Int := if f = 0 ∧ sc (blT T) N p < N ∧ ¬ T (sc (blT T) N p) = 59 then 1 + 8 * sc (blT T) N p else f
theorem p_md_goesOn {T : Int → Int} {N p f : Int} {v : Mem} {Q : Int → Mem → Prop} (hT : TX T N) (hp : 0 ≤ p ∧ p ≤ N) (hC : RX v T N p) (hf : v 34 34 0 = f) (hb : 0 ≤ f ∧ f ≤ 100000)
    (h : ∀ m, FrJ 34 (fun j => j = 33 ∨ j = 34) v m → RX m T N (sc (blT T) N p + 1) → m 34 34 0 = goF T N p f → Q (b2 (goF T N p f = 0 ∧ sc (blT T) N p < N)) m) : W_md_goesOn v Q := by
  have hN := hT.1
  have hbb := sc_bd (P := blT T) hp.2
  refine w_md_goesOn (b_md_goesOn_0 (p_md_blanks hT hC ⟨hp.1, by omega⟩ (fun m1 F1 C1 => ?_)))
  unfold goF at h
  generalize sc (blT T) N p = b at hbb C1 h
  have f1 : m1 34 34 0 = f := by rw [F1.2 34 (by omega)]; exact hf
  have fin : ∀ m2 g, FrJ 34 (fun j => j = 33 ∨ j = 34) v m2 → RX m2 T N b → m2 34 34 0 = g → (0 ≤ g ∧ g ≤ 100000) → g = (if f = 0 ∧ b < N ∧ ¬ T b = 59 then 1 + 8 * b else f) → T_md_goesOn_40 Q m2 := fun m2 g F2 C2 e2 gb hg => by
    unfold T_md_goesOn_40 T_md_goesOn_62 T_md_goesOn_63
    rw [e2, C2.1, C2.2.1, wr_id (x := g) (by omega) (by omega), wr_id (x := N) (by omega) (by omega), wr_id (x := b) (by omega) (by omega)]
    rw [← hg] at h
    have go : ∀ (y : Int) (s1 : Mem), s1 = updM m2 34 33 0 (b + 1) → y = b2 (g = 0 ∧ b < N) → (y = 0 ∨ y = 1) ∧ Q y s1 := fun y s1 x1 ey => by
      obtain ⟨a1, a2, a3⟩ := updM_f x1
      subst ey
      exact ⟨b2_01 _, h s1 (F2.tr ⟨a1, fun j hj => a2 j (by omega)⟩) (C2.st (S := fun j => j = 33) ⟨a1, fun j hj => a2 j hj⟩ (by omega) (by omega) (by rw [a3, uA_s])) (by rw [a2 34 (by omega)]; exact e2)⟩
    exact ⟨fun z s1 x1 => go 0 s1 x1 (b2_f (by omega)).symm, fun z => ⟨fun z2 s1 x1 => go 0 s1 x1 (b2_f (by omega)).symm, fun z2 s1 x1 => go 1 s1 x1 (b2_t (by omega)).symm⟩⟩
  have Fm : FrJ 34 (fun j => j = 33 ∨ j = 34) v m1 := F1.mono (fun j z => Or.inl z)
  rw [f1, C1.1, C1.2.1, wr_id (x := f) (by omega) (by omega), wr_id (x := N) (by omega) (by omega), wr_id (x := b) (by omega) (by omega)]
  refine ⟨fun z => fin m1 f Fm C1 f1 hb (if_neg (by omega)).symm, fun z => ⟨fun z2 => fin m1 f Fm C1 f1 hb (if_neg (by omega)).symm, fun z2 => p_md_sign hT C1 (by omega) ?_⟩⟩
  have epk : pk T N b = T b := if_pos (by omega)
  have hTb := hT.2 b (by omega) (by omega)
  rw [epk, wr_id (x := T b) (by omega) (by omega)]
  refine ⟨fun z3 => fin m1 f Fm C1 f1 hb (if_neg (by omega)).symm, fun z3 => p_md_fails f1 hb (fun m2 F2 e2 => ?_)⟩
  rw [C1.2.1] at e2
  have z := Decidable.byContradiction z
  refine fin m2 _ (Fm.tr (F2.mono (fun j q => Or.inr q))) (C1.st F2 (by omega) (by omega) (by rw [F2.2 33 (by omega)]; exact C1.2.1)) e2 ?_ ?_
  · unfold flt; rw [if_pos z]; omega
  · unfold flt
    rw [if_pos z, if_pos ⟨z, by omega, z3⟩]
    omega
/-- the faults a SHOP may have -/
theorem shC_bd {T : Int → Int} {N : Int} (hN : 0 ≤ N ∧ N ≤ 400) : ∀ (f : Nat) (p : Int) (D : Nat → Int → Int) (tl : Int → Int) (r : Int) (D' : Nat → Int → Int), (0 ≤ p ∧ p ≤ N) → shC T N f p D tl r D' → DOK2 D tl → 0 ≤ r ∧ r ≤ 5000
  | 0, _, _, _, _, _, _, h, _ => absurd h id
  | f + 1, p, D, tl, r, D', hp, h, hD => by
    obtain ⟨rc, p1, D1, tl1, hcl, hrb, h⟩ := h
    rcases h with ⟨_, h⟩ | ⟨h0, h⟩
    · omega
    · subst h0
      obtain ⟨_, _, _, _, _, _, hpb, _, _, _, hD2⟩ := clC_ok hp hD hcl
      have hnb := sc_bd (P := blT T) hpb.2
      rcases h with ⟨_, h, _⟩ | ⟨_, _, h⟩ | ⟨h1, _, h⟩
      · split at h <;> omega
      · omega
      · exact shC_bd hN f _ D1 tl1 r D' (by omega) h hD2
theorem p_md_shopL {T : Int → Int} {N r : Int} {D' : Nat → Int → Int} {Q : Int → Mem → Prop} {v : Mem} (hT : TX T N)
    (h : ∀ m, FrJ 34 shK v m → m 34 32 0 = N → (0 ≤ m 34 34 0 ∧ m 34 34 0 ≤ 5000) → (if m 34 34 0 = 0 ∧ m 34 12 0 = 0 then 1 + 8 * N else m 34 34 0) = r → (0 ≤ m 34 12 0 ∧ m 34 12 0 ≤ 12 ∨ ¬ m 34 34 0 = 0) → (r = 0 → RSh D' (MN m)) → T_md_shop_49 Q m) :
    ∀ (f : Nat) (n p : Int) (D : Nat → Int → Int) (tl : Int → Int) (u : Mem), n + f = 33 → 0 ≤ n → FrJ 34 shK v u → (0 ≤ p ∧ p ≤ N) → shC T N f p D tl r D' → RX u T N p → u 34 34 0 = 0 → RSh D (MN u) → DOK2 D tl → u 34 12 1 = tl 1 → OnR tl u → K_md_shop_29 Q n 1 u
  | 0, _, _, _, _, _, _, _, _, _, hs, _, _, _, _, _, _ => absurd hs id
  | f + 1, n, p, D, tl, u, hn, n0, hF, hp, hs, hC, hf, hR, hD, h1, hO => by
    have hN := hT.1
    obtain ⟨rc, p1, D1, tl1, hcl, hrb, hs⟩ := hs
    rw [show decide (f = 0) = decide (n = 32) from decide_eq_decide.mpr ⟨fun z => by omega, fun z => by omega⟩] at hcl
    refine b_md_shop_29 ?_
    unfold T_md_shop_29
    refine ⟨fun z => absurd z (by decide), fun _ => p_md_shopClause hT hp (by omega) hC hf hR hD h1 hO hcl (fun m q' Fm hq' Cm em hm => ?_)⟩
    refine p_md_goesOn hT hq' Cm em (by omega) (fun m2 F2 C2 e2 => ?_)
    have hqb := sc_bd (P := blT T) hq'.2
    have Fu : FrJ 34 shK v m2 := hF.tr (Fm.tr (F2.mono (fun j z => by unfold shK shJ; omega)))
    have r12 : m2 34 12 = m 34 12 := F2.2 12 (by omega)
    by_cases hz : rc = 0
    · subst hz
      obtain ⟨g1, g2, g3, g4⟩ := hm rfl
      rw [g1] at e2 C2 hqb ⊢
      obtain ⟨_, _, _, _, _, _, hpb, _, _, _, hD2⟩ := clC_ok hp hD hcl
      have hd4 := hD2.1.1
      have R2 : RSh D1 (MN m2) := by
        have e : ∀ b, b ≤ 9 → MN m2 b = MN m b := fun b hb => F2.2 _ (by omega)
        exact RSh_u g2 (fun k _ _ => by rw [e 0 (by omega)]) (fun b b1 b9 => e b b9)
      have e12 : m2 34 12 0 = D1 4 0 := R2.1.2.1.symm
      rcases hs with ⟨z, _⟩ | ⟨_, ⟨c1, c2, c3⟩ | ⟨c1, c2, c3⟩ | ⟨c1, c2, c3⟩⟩
      · exact absurd rfl z
      · have eg : goF T N p1 0 = 0 := if_neg (by omega)
        rw [eg] at e2 ⊢
        rw [b2_f (by omega)]
        refine fun _ => b_md_shop_29 ?_
        unfold T_md_shop_29
        refine ⟨fun _ => h m2 Fu C2.1 (by omega) ?_ (by omega) (fun z => by rw [c3]; exact R2), fun z => absurd (by decide) z⟩
        rw [e2, e12]
        by_cases z : 0 < D1 4 0
        · rw [if_pos z] at c2
          rw [if_neg (by omega)]; exact c2.symm
        · rw [if_neg z] at c2
          rw [if_pos (by omega)]; omega
      · have eg : goF T N p1 0 = 1 + 8 * sc (blT T) N p1 := if_pos ⟨rfl, c1, c2⟩
        rw [eg] at e2 ⊢
        rw [b2_f (by omega)]
        refine fun _ => b_md_shop_29 ?_
        unfold T_md_shop_29
        refine ⟨fun _ => h m2 Fu C2.1 (by omega) ?_ (by omega) (fun z => by omega), fun z => absurd (by decide) z⟩
        rw [if_neg (by omega)]; omega
      · have eg : goF T N p1 0 = 0 := if_neg (by omega)
        rw [eg] at e2 ⊢
        rw [b2_t (by omega)]
        intro _
        refine p_md_shopL hT h f (n + 1) _ D1 tl1 m2 (by omega) (by omega) Fu (by omega) c3 C2 e2 R2 hD2 (by rw [r12]; exact g3) ?_
        obtain ⟨y, y1, y2, y3⟩ := g4
        exact ⟨y, y1, by rw [F2.2 42 (by omega)]; exact y2, y3⟩
    · have er : r = rc := by
        rcases hs with ⟨_, z⟩ | ⟨z, _⟩
        · exact z
        · exact absurd z hz
      have eg : goF T N q' rc = rc := if_neg (fun z => hz z.1)
      rw [eg] at e2 ⊢
      rw [b2_f (fun z => hz z.1)]
      refine fun _ => b_md_shop_29 ?_
      unfold T_md_shop_29
      refine ⟨fun _ => h m2 Fu C2.1 (by omega) ?_ (Or.inr (by omega)) (fun z => by omega), fun z => absurd (by decide) z⟩
      rw [if_neg (by omega)]; omega
