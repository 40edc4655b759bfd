/-! ===== SHOP: the reference's side ===== -/
def MN (v : Mem) : Nat → Int → Int := fun a => v 34 (12 + a)
theorem fFS_bd {T : Int → Int} {N c x : Int} {D : Nat → Int → Int} (hc : 0 ≤ c ∧ c ≤ N) (hN : N ≤ 400) : ∀ n : Nat, 0 ≤ fFS T N c x D n ∧ fFS T N c x D n ≤ 4000
  | 0 => by show 0 ≤ (0 : Int) ∧ (0 : Int) ≤ 4000; omega
  | n + 1 => by
    have ih := fFS_bd (T := T) (x := x) (D := D) hc hN n
    have h1 := cuS_bd (T := T) hc n
    have h2 := sc_bd (P := blT T) h1.2
    show 0 ≤ (if fFS T N c x D n = 0 then amS T N c x D n else fFS T N c x D n) ∧ _
    have h3 : 0 ≤ amS T N c x D n ∧ amS T N c x D n ≤ 4000 := amF_bd (by omega)
    show 0 ≤ (if fFS T N c x D n = 0 then amS T N c x D n else fFS T N c x D n) ∧ (if fFS T N c x D n = 0 then amS T N c x D n else fFS T N c x D n) ≤ 4000
    split
    · exact h3
    · exact ih
theorem p_am {T : Int → Int} {N c x q lo hi : Int} {D : Nat → Int → Int} {v : Mem} {Q : Int → Mem → Prop} (i : Nat) (hT : TX T N) (hc : 0 ≤ c ∧ c ≤ N) (hC : RX v T N q) (hq : 0 ≤ q ∧ q ≤ N) (hf : v 34 34 0 = fFS T N c x D i) (hcu : fFS T N c x D i = 0 → q = cuS T N c i) (hlo : loK x i = lo) (hhi : fFS T N c x D i = 0 → hiK x D (vaS T N c 0) i = hi) (blo : -1000 ≤ lo ∧ lo ≤ 1000) (bhi : -1000 ≤ hi ∧ hi ≤ 1000)
    (h : ∀ m q' y, FrJ 34 (fun j => j = 33 ∨ j = 34) v m → (0 ≤ q' ∧ q' ≤ N) → RX m T N q' → m 34 34 0 = fFS T N c x D (i + 1) → (fFS T N c x D (i + 1) = 0 → q' = cuS T N c (i + 1) ∧ y = vaS T N c i ∧ lo ≤ y ∧ y ≤ hi) → (¬ fFS T N c x D (i + 1) = 0 → True) → Q y m) : W_md_amount lo hi v Q := by
  have hN := hT.1
  have hfb := fFS_bd (T := T) (x := x) (D := D) hc hN.2 i
  have e1 : fFS T N c x D (i + 1) = if fFS T N c x D i = 0 then amS T N c x D i else fFS T N c x D i := rfl
  have hcb := cuS_bd (T := T) hc i
  have hnb := sc_bd (P := blT T) hcb.2
  refine p_md_amount hT hC hq hf (by omega) ⟨by omega, by omega⟩ ⟨by omega, by omega⟩ (fun m q' hF hq' hCm h0 h1 => ?_)
  by_cases z : fFS T N c x D i = 0
  · obtain ⟨g1, g2⟩ := h0 z
    rw [hcu z] at g1 g2
    have ea : amS T N c x D i = amF T N lo hi (sc (blT T) N (cuS T N c i)) := by
      unfold amS
      rw [hlo, hhi z]
    rw [if_pos z, ea] at e1
    rw [if_pos z, hcu z]
    refine h m q' _ hF hq' hCm (by rw [g2, e1]) (fun z2 => ⟨g1, ?_⟩) (fun _ => trivial)
    rw [e1] at z2
    obtain ⟨k1, k2, k3⟩ := am_ok (by omega) z2
    have ev : vaS T N c i = nuV T N (sc (blT T) N (cuS T N c i)) := rfl
    unfold amV
    rw [if_neg k1, ev]
    exact ⟨rfl, k2, k3⟩
  · rw [if_neg z] at e1
    rw [if_neg z]
    exact h m q' 0 hF hq' hCm (by rw [h1 z, e1]) (fun z2 => absurd (by rw [← e1]; exact z2) z) (fun _ => trivial)
/-! what a CLAUSE makes of the rows, on both sides -/
theorem RSh_k0 {D M M' : Nat → Int → Int} {n : Int} {va : Nat → Int} (h : RSh D M) (hn : n = D 4 0) (h12 : n < 12) (v0 : 1 ≤ va 0 ∧ va 0 ≤ 480) (v1 : 1 ≤ va 1 ∧ va 1 ≤ 99) (v2 : 0 ≤ va 2 ∧ va 2 ≤ 9) (v3 : 0 ≤ va 3 ∧ va 3 ≤ 96) (m1 : M' 1 = uA (M 1) n (va 0)) (m2 : M' 2 = uA (M 2) n (va 1)) (m3 : M' 3 = uA (M 3) n (va 2)) (m4 : M' 4 = uA (M 4) n (va 3)) (m0 : M' 0 = uA (M 0) 0 (n + 1)) (mj : ∀ a, 5 ≤ a → a ≤ 9 → M' a = M a) : RSh (kpD 0 n va D) M' := by
  obtain ⟨⟨a1, a2, a3⟩, ⟨f1, f2, f3, f4⟩, ⟨s1, s2, s3, s4, s5⟩, g1, g2⟩ := h
  have e0 : ∀ k, ¬ k = 0 → M' 0 k = M 0 k := fun k hk => by rw [m0, uA_n _ hk]
  refine ⟨⟨by rw [m0, uA_s]; omega, ?_, fun b b0 b1 => ?_⟩, ⟨f1, by rw [e0 1 (by decide)]; exact f2, ?_, fun k k0 k1 => ?_⟩, ⟨?_, ?_, ?_, ?_, ?_⟩, ?_, fun f f0 ff => ?_⟩
  · show uA (D 4) 0 (n + 1) 0 = M' 0 0
    rw [m0, uA_s, uA_s]
  · rw [m0, uA_s] at b1
    show (uA (D 0) n (va 0) b = M' 1 b ∧ 0 ≤ M' 1 b ∧ M' 1 b ≤ 480) ∧ (uA (D 1) n (va 1) b = M' 2 b ∧ 1 ≤ M' 2 b ∧ M' 2 b ≤ 99) ∧ (uA (D 2) n (va 2) b = M' 3 b ∧ 0 ≤ M' 3 b ∧ M' 3 b ≤ 9) ∧ (uA (D 3) n (va 3) b = M' 4 b ∧ 0 ≤ M' 4 b ∧ M' 4 b ≤ 96)
    rw [m1, m2, m3, m4]
    by_cases q : b = n
    · rw [uA_e _ q, uA_e _ q, uA_e _ q, uA_e _ q, uA_e _ q, uA_e _ q, uA_e _ q, uA_e _ q]
      omega
    · rw [uA_n _ q, uA_n _ q, uA_n _ q, uA_n _ q, uA_n _ q, uA_n _ q, uA_n _ q, uA_n _ q]
      exact a3 b b0 (by omega)
  · show clL (D 5) (D 6) (D 7 0).toNat = flL (M' 5) (M' 6) (M' 0 1).toNat
    rw [e0 1 (by decide), mj 5 (by omega) (by omega), mj 6 (by omega) (by omega)]
    exact f3
  · rw [e0 1 (by decide)] at k1
    obtain ⟨x1, x2, x3, x4⟩ := f4 k k0 k1
    rw [mj 5 (by omega) (by omega), mj 6 (by omega) (by omega), m0, uA_s, m1, uA_n _ (by omega)]
    exact ⟨x1, by omega, x3, x4⟩
  · show D 8 0 = M' 0 2 ∧ _
    rw [e0 2 (by decide)]; exact s1
  · show D 9 0 = M' 0 3 ∧ _
    rw [e0 3 (by decide)]; exact s2
  · show D 10 0 = M' 0 4 ∧ _
    rw [e0 4 (by decide)]; exact s3
  · show D 15 0 = M' 0 6 ∧ _
    rw [e0 6 (by decide)]; exact s4
  · show D 16 0 = M' 0 7 ∧ _
    rw [e0 7 (by decide)]; exact s5
  · show D 14 0 = M' 0 5 ∧ _
    rw [e0 5 (by decide)]; exact g1
  · rw [e0 5 (by decide)] at ff
    show (D 11 f = M' 7 f ∧ _) ∧ (D 12 f = M' 8 f ∧ _) ∧ (D 13 f = M' 9 f ∧ _)
    rw [mj 7 (by omega) (by omega), mj 8 (by omega) (by omega), mj 9 (by omega) (by omega)]
    exact g2 f f0 ff
theorem RSh_k1 {D M M' : Nat → Int → Int} {n : Int} {va : Nat → Int} (h : RSh D M) (hn : n = D 7 0) (hn1 : n = M 0 1) (h16 : n < 16) (v0 : 0 ≤ va 0 ∧ va 0 < D 4 0) (v1 : 0 ≤ va 1 ∧ va 1 < D 0 (va 0)) (m5 : M' 5 = uA (M 5) n (va 0)) (m6 : M' 6 = uA (M 6) n (va 1)) (m0 : M' 0 = uA (M 0) 1 (n + 1)) (mj : ∀ a, (1 ≤ a ∧ a ≤ 4) ∨ (7 ≤ a ∧ a ≤ 9) → M' a = M a) : RSh (kpD 1 n va D) M' := by
  obtain ⟨⟨a1, a2, a3⟩, ⟨f1, f2, f3, f4⟩, ⟨s1, s2, s3, s4, s5⟩, g1, g2⟩ := h
  have e0 : ∀ k, ¬ k = 1 → M' 0 k = M 0 k := fun k hk => by rw [m0, uA_n _ hk]
  have ed := (a3 (va 0) v0.1 (by omega)).1.1
  refine ⟨⟨by rw [e0 0 (by decide)]; exact a1, ?_, fun b b0 b1 => ?_⟩, ⟨?_, by rw [m0, uA_s]; omega, ?_, fun k k0 k1 => ?_⟩, ⟨?_, ?_, ?_, ?_, ?_⟩, ?_, fun f f0 ff => ?_⟩
  · show D 4 0 = M' 0 0
    rw [e0 0 (by decide)]; exact a2
  · rw [e0 0 (by decide)] at b1
    show (D 0 b = M' 1 b ∧ _) ∧ (D 1 b = M' 2 b ∧ _) ∧ (D 2 b = M' 3 b ∧ _) ∧ (D 3 b = M' 4 b ∧ _)
    rw [mj 1 (by omega), mj 2 (by omega), mj 3 (by omega), mj 4 (by omega)]
    exact a3 b b0 b1
  · show 0 ≤ uA (D 7) 0 (n + 1) 0 ∧ uA (D 7) 0 (n + 1) 0 ≤ 16
    rw [uA_s]; omega
  · show clL (uA (D 5) n (va 0)) (uA (D 6) n (va 1)) (uA (D 7) 0 (n + 1) 0).toNat = flL (M' 5) (M' 6) (M' 0 1).toNat
    rw [m5, m6, m0, uA_s, uA_s, show (n + 1).toNat = n.toNat + 1 by omega, clL_succ, flL_succ, ei_nat (by omega), uA_s, uA_s, uA_s, uA_s, if_neg (by omega)]
    congr 1
    rw [clL_congr (f' := D 5) (g' := D 6) (fun k hk => ⟨uA_n _ (by omega), uA_n _ (by omega)⟩), flL_congr (f' := M 5) (g' := M 6) (fun k hk => ⟨uA_n _ (by omega), uA_n _ (by omega)⟩)]
    rw [← hn, ← hn1] at f3
    exact f3
  · rw [m0, uA_s] at k1
    rw [m5, m6, e0 0 (by decide), mj 1 (by omega)]
    by_cases q : k = n
    · rw [uA_e _ q, uA_e _ q]
      omega
    · rw [uA_n _ q, uA_n _ q]
      exact f4 k k0 (by omega)
  · show D 8 0 = M' 0 2 ∧ _
    rw [e0 2 (by decide)]; exact s1
  · show D 9 0 = M' 0 3 ∧ _
    rw [e0 3 (by decide)]; exact s2
  · show D 10 0 = M' 0 4 ∧ _
    rw [e0 4 (by decide)]; exact s3
  · show D 15 0 = M' 0 6 ∧ _
    rw [e0 6 (by decide)]; exact s4
  · show D 16 0 = M' 0 7 ∧ _
    rw [e0 7 (by decide)]; exact s5
  · show D 14 0 = M' 0 5 ∧ _
    rw [e0 5 (by decide)]; exact g1
  · rw [e0 5 (by decide)] at ff
    show (D 11 f = M' 7 f ∧ _) ∧ (D 12 f = M' 8 f ∧ _) ∧ (D 13 f = M' 9 f ∧ _)
    rw [mj 7 (by omega), mj 8 (by omega), mj 9 (by omega)]
    exact g2 f f0 ff
theorem RSh_k5 {D M M' : Nat → Int → Int} {n : Int} {va : Nat → Int} (h : RSh D M) (hn : n = D 14 0) (h8 : n < 8) (v0 : 1 ≤ va 0 ∧ va 0 ≤ 80) (v1 : 1 ≤ va 1 ∧ va 1 ≤ 99) (v2 : 0 ≤ va 2 ∧ va 2 ≤ 999) (m7 : M' 7 = uA (M 7) n (va 0)) (m8 : M' 8 = uA (M 8) n (va 1)) (m9 : M' 9 = uA (M 9) n (va 2)) (m0 : M' 0 = uA (M 0) 5 (n + 1)) (mj : ∀ a, 1 ≤ a → a ≤ 6 → M' a = M a) : RSh (kpD 5 n va D) M' := by
  obtain ⟨hB, hF, hS, g1, g2⟩ := h
  have e0 : ∀ k, ¬ k = 5 → M' 0 k = M 0 k := fun k hk => by rw [m0, uA_n _ hk]
  refine ⟨Bal_c hB (e0 0 (by decide)) (fun a a0 aa => mj a a0 (by omega)) (fun j hj => ?_), Flw_c hF (e0 0 (by decide)) (e0 1 (by decide)) (fun a ha => mj a (by omega) (by omega)) (fun j j0 j1 => ?_), Sca_c hS (fun k hk => e0 k (by omega)) (fun j hj => ?_), ?_, fun f f0 ff => ?_⟩
  · show (if j = 11 then _ else if j = 12 then _ else if j = 13 then _ else if j = 14 then _ else D j) = D j
    rw [if_neg (by omega), if_neg (by omega), if_neg (by omega), if_neg (by omega)]
  · show (if j = 11 then _ else if j = 12 then _ else if j = 13 then _ else if j = 14 then _ else D j) = D j
    rw [if_neg (by omega), if_neg (by omega), if_neg (by omega), if_neg (by omega)]
  · show (if j = 11 then _ else if j = 12 then _ else if j = 13 then _ else if j = 14 then _ else D j) = D j
    rw [if_neg (by omega), if_neg (by omega), if_neg (by omega), if_neg (by omega)]
  · show uA (D 14) 0 (n + 1) 0 = M' 0 5 ∧ _
    rw [m0, uA_s, uA_s]
    omega
  · rw [m0, uA_s] at ff
    show (uA (D 11) n (va 0) f = M' 7 f ∧ 1 ≤ M' 7 f ∧ M' 7 f ≤ 80) ∧ (uA (D 12) n (va 1) f = M' 8 f ∧ 1 ≤ M' 8 f ∧ M' 8 f ≤ 99) ∧ (uA (D 13) n (va 2) f = M' 9 f ∧ 0 ≤ M' 9 f ∧ M' 9 f ≤ 999)
    rw [m7, m8, m9]
    by_cases q : f = n
    · rw [uA_e _ q, uA_e _ q, uA_e _ q, uA_e _ q, uA_e _ q, uA_e _ q]
      omega
    · rw [uA_n _ q, uA_n _ q, uA_n _ q, uA_n _ q, uA_n _ q, uA_n _ q]
      exact g2 f f0 (by omega)
theorem RSh_ksc {D D' M M' : Nat → Int → Int} (h : RSh D M) (hS : Sca D' M') (dj : ∀ j, ¬ (8 ≤ j ∧ j ≤ 10) → ¬ (15 ≤ j ∧ j ≤ 16) → D' j = D j) (m0 : ∀ k, k = 0 ∨ k = 1 ∨ k = 5 → M' 0 k = M 0 k) (mj : ∀ a, 1 ≤ a → a ≤ 9 → M' a = M a) : RSh D' M' := by
  obtain ⟨hB, hF, -, hFr⟩ := h
  exact ⟨Bal_c hB (m0 0 (by omega)) (fun a a0 aa => mj a a0 (by omega)) (fun j hj => dj j (by omega) (by omega)), Flw_c hF (m0 0 (by omega)) (m0 1 (by omega)) (fun a ha => mj a (by omega) (by omega)) (fun j j0 j1 => dj j (by omega) (by omega)), hS, Frm_c hFr (m0 5 (by omega)) (fun a a0 aa => mj a (by omega) (by omega)) (fun j j0 j1 => dj j (by omega) (by omega))⟩
/-- the rows that a CLAUSE may write -/
def shJ (j : Nat) : Prop := (12 ≤ j ∧ j ≤ 21) ∨ j = 33 ∨ j = 34
theorem p_md_shopPart {T : Int → Int} {N c x : Int} {D : Nat → Int → Int} {tl : Int → Int} {v : Mem} {Q : Mem → Prop} (hT : TX T N) (hc : 0 ≤ c ∧ c ≤ N) (hx : 0 ≤ x ∧ x ≤ 6) (hC : RX v T N c) (hf : v 34 34 0 = 0) (hR : RSh D (MN v)) (hD : DOK2 D tl) (hlt : tl x < cval 1 x) (h1 : v 34 12 1 = tl 1)
    (h : ∀ m q', FrJ 34 shJ v m → (0 ≤ q' ∧ q' ≤ N) → RX m T N q' → m 34 34 0 = fFS T N c x D (nbK x) → (fFS T N c x D (nbK x) = 0 → q' = cuS T N c (nbK x) ∧ RSh (kpD x (tl x) (vaS T N c) D) (MN m) ∧ m 34 12 1 = uA tl x (tl x + 1) 1) → Q m) : W_md_shopPart x v Q := by
  have hN := hT.1
  obtain ⟨⟨d1, d2, d3⟩, d4, d5, d6⟩ := hD
  have htl := d3 x hx.1 hx.2
  have f00 : fFS T N c x D 0 = 0 := rfl
  have fz : ∀ {i : Nat}, fFS T N c x D (i + 1) = 0 → fFS T N c x D i = 0 := fun {i} z => Decidable.byContradiction fun y => by
    have e : fFS T N c x D (i + 1) = if fFS T N c x D i = 0 then amS T N c x D i else fFS T N c x D i := rfl
    rw [if_neg y] at e
    omega
  have am : ∀ (lo hi : Int) (i : Nat) (u : Mem) (q : Int) (Q' : Int → Mem → Prop), FrJ 34 shJ v u → (0 ≤ q ∧ q ≤ N) → RX u T N q → u 34 34 0 = fFS T N c x D i → (fFS T N c x D i = 0 → q = cuS T N c i) → loK x i = lo → (fFS T N c x D i = 0 → hiK x D (vaS T N c 0) i = hi) → (-1000 ≤ lo ∧ lo ≤ 1000) → (-1000 ≤ hi ∧ hi ≤ 1000) → (∀ m q' y, FrJ 34 shJ v m → FrJ 34 (fun j => j = 33 ∨ j = 34) u m → (0 ≤ q' ∧ q' ≤ N) → RX m T N q' → m 34 34 0 = fFS T N c x D (i + 1) → (fFS T N c x D (i + 1) = 0 → q' = cuS T N c (i + 1) ∧ y = vaS T N c i ∧ lo ≤ y ∧ y ≤ hi) → Q' y m) → W_md_amount lo hi u Q' := fun lo hi i u q Q' hFu hq hCu hfu hcu hlo hhi blo bhi hk => p_am i hT hc hCu hq hfu hcu hlo hhi blo bhi (fun m q' y g1 g2 g3 g4 g5 _ => hk m q' y (hFu.tr (g1.mono (fun j z => by unfold shJ; omega))) g1 g2 g3 g4 g5)
  have wr1 : ∀ {u s' : Mem} {j : Nat} {i y : Int}, FrJ 34 shJ v u → (12 ≤ j ∧ j ≤ 21) → s' = updM u 34 j i y → FrJ 34 shJ v s' := fun {u s' j i y} hFu hj hs => by
    obtain ⟨y1, y2, y3⟩ := updM_f hs
    exact hFu.tr ⟨y1, fun j' z => y2 j' (fun w => z (by unfold shJ; omega))⟩
  have rxw : ∀ {u s' : Mem} {j : Nat} {i y q : Int}, RX u T N q → (12 ≤ j ∧ j ≤ 21) → s' = updM u 34 j i y → RX s' T N q ∧ s' 34 34 0 = u 34 34 0 := fun {u s' j i y q} hCu hj hs => by
    obtain ⟨y1, y2, y3⟩ := updM_f hs
    exact ⟨⟨by rw [y2 32 (by omega)]; exact hCu.1, by rw [y2 33 (by omega)]; exact hCu.2.1, fun i i0 i1 => by rw [y2 43 (by omega)]; exact hCu.2.2 i i0 i1⟩, by rw [y2 34 (by omega)]⟩
  refine w_md_shopPart (b_md_shopPart_0 ?_)
  rcases kinds7 hx with q | q | q | q | q | q | q <;> subst q
  · -- bale
    have c12 : cval 1 0 = 12 := rfl
    have en : v 34 12 0 = tl 0 := by rw [d4]; exact hR.1.2.1.symm
    unfold T_md_shopPart_0 T_md_shopPart_15 T_md_shopPart_16
    rw [show wr 0 = 0 from rfl, en, wr_id (x := tl 0) (by omega) (by omega)]
    refine br_f (by decide) ⟨by omega, br_f (by decide) ?_⟩
    refine am 1 480 0 v c _ FrJ.rf hc hC (by rw [hf]; rfl) (fun _ => rfl) rfl (fun _ => rfl) (by omega) (by omega) (fun m1 q1 y1 F1 G1 Q1 C1 E1 V1 => ⟨by omega, fun s4 x4 => ?_⟩)
    obtain ⟨r4, e4⟩ := rxw C1 (by omega) x4
    refine am 1 99 1 s4 q1 _ (wr1 F1 (by omega) x4) Q1 r4 (by rw [e4, E1]) (fun z => (V1 z).1) rfl (fun _ => rfl) (by omega) (by omega) (fun m2 q2 y2 F2 G2 Q2 C2 E2 V2 => ⟨by omega, fun s7 x7 => ?_⟩)
    obtain ⟨r7, e7⟩ := rxw C2 (by omega) x7
    refine am 0 9 2 s7 q2 _ (wr1 F2 (by omega) x7) Q2 r7 (by rw [e7, E2]) (fun z => (V2 z).1) rfl (fun _ => rfl) (by omega) (by omega) (fun m3 q3 y3 F3 G3 Q3 C3 E3 V3 => ⟨by omega, fun s10 x10 => ?_⟩)
    obtain ⟨r10, e10⟩ := rxw C3 (by omega) x10
    refine am 0 96 3 s10 q3 _ (wr1 F3 (by omega) x10) Q3 r10 (by rw [e10, E3]) (fun z => (V3 z).1) rfl (fun _ => rfl) (by omega) (by omega) (fun m4 q4 y4 F4 G4 Q4 C4 E4 V4 => ⟨by omega, fun s13 x13 => ⟨by omega, by omega, fun s14 x14 => ?_⟩⟩)
    obtain ⟨r13, e13⟩ := rxw C4 (by omega) x13
    obtain ⟨r14, e14⟩ := rxw r13 (by omega) x14
    have F13 := wr1 F4 (by omega) x13
    have F14 := wr1 F13 (by omega) x14
    refine h s14 q4 F14 Q4 r14 (by rw [e14, e13, E4]; rfl) (fun z => ?_)
    have z : fFS T N c 0 D 4 = 0 := z
    obtain ⟨p4, w4, u4⟩ := V4 z
    obtain ⟨-, w3, u3⟩ := V3 (fz z)
    obtain ⟨-, w2, u2⟩ := V2 (fz (fz z))
    obtain ⟨-, w1, u1⟩ := V1 (fz (fz (fz z)))
    obtain ⟨a1, a2, a3⟩ := updM_f x4
    obtain ⟨b1, b2, b3⟩ := updM_f x7
    obtain ⟨k1, k2, k3⟩ := updM_f x10
    obtain ⟨i1, i2, i3⟩ := updM_f x13
    obtain ⟨j1, j2, j3⟩ := updM_f x14
    have row : ∀ j, (17 ≤ j ∧ j ≤ 21) ∨ j = 12 → s13 34 j = v 34 j := fun j hj => by rw [i2 j (by omega), G4.2 j (by omega), k2 j (by omega), G3.2 j (by omega), b2 j (by omega), G2.2 j (by omega), a2 j (by omega), G1.2 j (by omega)]
    refine ⟨p4, RSh_k0 hR d4 (by omega) (by omega) (by omega) (by omega) (by omega) ?_ ?_ ?_ ?_ ?_ (fun a a5 a9 => ?_), ?_⟩
    · show s14 34 13 = uA (v 34 13) (tl 0) _
      rw [j2 13 (by omega), i2 13 (by omega), G4.2 13 (by omega), k2 13 (by omega), G3.2 13 (by omega), b2 13 (by omega), G2.2 13 (by omega), a3, G1.2 13 (by omega), w1]
    · show s14 34 14 = uA (v 34 14) (tl 0) _
      rw [j2 14 (by omega), i2 14 (by omega), G4.2 14 (by omega), k2 14 (by omega), G3.2 14 (by omega), b3, G2.2 14 (by omega), a2 14 (by omega), G1.2 14 (by omega), w2]
    · show s14 34 15 = uA (v 34 15) (tl 0) _
      rw [j2 15 (by omega), i2 15 (by omega), G4.2 15 (by omega), k3, G3.2 15 (by omega), b2 15 (by omega), G2.2 15 (by omega), a2 15 (by omega), G1.2 15 (by omega), w3]
    · show s14 34 16 = uA (v 34 16) (tl 0) _
      rw [j2 16 (by omega), i3, G4.2 16 (by omega), k2 16 (by omega), G3.2 16 (by omega), b2 16 (by omega), G2.2 16 (by omega), a2 16 (by omega), G1.2 16 (by omega), w4]
    · show s14 34 12 = uA (v 34 12) 0 (tl 0 + 1)
      rw [j3, row 12 (by omega), en]
    · show s14 34 (12 + a) = v 34 (12 + a)
      rw [j2 _ (by omega), row _ (by omega)]
    · rw [j3, uA_n _ (by omega), row 12 (by omega), h1, uA_n _ (by omega)]
  · -- flaw
    have c16 : cval 1 1 = 16 := rfl
    have e0 : v 34 12 0 = D 4 0 := hR.1.2.1.symm
    unfold T_md_shopPart_0 T_md_shopPart_16 T_md_shopPart_87
    rw [show wr 1 = 1 from rfl, h1, wr_id (x := tl 1) (by omega) (by omega)]
    refine br_f (by decide) ⟨by omega, br_t (by decide) (br_f (by decide) ?_)⟩
    refine am 0 (v 34 12 0 - 1) 0 v c _ FrJ.rf hc hC (by rw [hf]; rfl) (fun _ => rfl) rfl (fun _ => by rw [e0]; rfl) (by omega) (by omega) (fun m1 q1 y1 F1 G1 Q1 C1 E1 V1 => ⟨by omega, fun s4 x4 => ?_⟩)
    obtain ⟨r4, e4⟩ := rxw C1 (by omega) x4
    obtain ⟨a1, a2, a3⟩ := updM_f x4
    have F4 := wr1 F1 (by omega) x4
    have fb := fFS_bd (T := T) (x := 1) (D := D) hc hN.2 1
    have e4' : s4 34 34 0 = fFS T N c 1 D 1 := by rw [e4, E1]
    rw [e4', wr_id (x := fFS T N c 1 D 1) (by omega) (by omega)]
    have s412 : s4 34 12 = v 34 12 := by rw [a2 12 (by omega), G1.2 12 (by omega)]
    have last : ∀ (u : Mem) (q2 y2 : Int), FrJ 34 shJ v u → FrJ 34 (fun j => j = 33 ∨ j = 34) s4 u → (0 ≤ q2 ∧ q2 ≤ N) → RX u T N q2 → u 34 34 0 = fFS T N c 1 D 2 → (fFS T N c 1 D 2 = 0 → q2 = cuS T N c 2 ∧ (y1 = vaS T N c 0 ∧ 0 ≤ y1 ∧ y1 ≤ v 34 12 0 - 1) ∧ y2 = vaS T N c 1 ∧ 0 ≤ y2 ∧ y2 ≤ D 0 y1 - 1) → T_md_shopPart_142 Q 1 (tl 1) y2 u := fun u q2 y2 Fu Gu Q2 Cu Eu Vu => by
      unfold T_md_shopPart_142 T_md_shopPart_275
      rw [wr_id (x := tl 1) (by omega) (by omega), show wr 1 = 1 from rfl]
      refine ⟨by omega, fun s1 x1 => ⟨by omega, by omega, fun s2 x2 => ?_⟩⟩
      obtain ⟨r1, g1⟩ := rxw Cu (by omega) x1
      obtain ⟨r2, g2⟩ := rxw r1 (by omega) x2
      obtain ⟨b1, b2, b3⟩ := updM_f x1
      obtain ⟨k1, k2, k3⟩ := updM_f x2
      refine h s2 q2 (wr1 (wr1 Fu (by omega) x1) (by omega) x2) Q2 r2 (by rw [g2, g1, Eu]; rfl) (fun z => ?_)
      obtain ⟨p2, ⟨w1, u1, u1'⟩, w2, u2, u2'⟩ := Vu z
      have s112 : s1 34 12 = v 34 12 := by rw [b2 12 (by omega), Gu.2 12 (by omega), s412]
      rw [w1] at u1 u1' u2'
      rw [w2] at u2 u2'
      refine ⟨p2, RSh_k1 hR d5 (by rw [← h1]; rfl) (by omega) (by omega) (by omega) ?_ ?_ ?_ (fun a ha => ?_), ?_⟩
      · show s2 34 17 = uA (v 34 17) (tl 1) _
        rw [k2 17 (by omega), b2 17 (by omega), Gu.2 17 (by omega), a3, G1.2 17 (by omega), w1]
      · show s2 34 18 = uA (v 34 18) (tl 1) _
        rw [k2 18 (by omega), b3, Gu.2 18 (by omega), a2 18 (by omega), G1.2 18 (by omega), w2]
      · show s2 34 12 = uA (v 34 12) 1 (tl 1 + 1)
        rw [k3, s112, h1]
      · show s2 34 (12 + a) = v 34 (12 + a)
        rw [k2 _ (by omega), b2 _ (by omega), Gu.2 _ (by omega), a2 _ (by omega), G1.2 _ (by omega)]
      · rw [k3, uA_s, s112, h1, uA_s]
    refine ⟨fun z => ?_, fun z => ?_⟩
    · unfold T_md_shopPart_141
      have e2 : fFS T N c 1 D 2 = fFS T N c 1 D 1 := if_neg z
      exact last s4 q1 0 F4 FrJ.rf Q1 r4 (by rw [e4', e2]) (fun z2 => absurd (by rw [← e2]; exact z2) z)
    · have z := Decidable.byContradiction z
      obtain ⟨p1, w1, u1, u1'⟩ := V1 z
      have hD0 := d2 y1 u1 (by omega)
      have e13 : s4 34 13 y1 = D 0 y1 := by
        rw [a2 13 (by omega), G1.2 13 (by omega)]
        exact (hR.1.2.2 y1 u1 (by show y1 < v 34 12 0; omega)).1.1.symm
      rw [wr_id (x := y1) (by omega) (by omega), e13]
      refine ⟨by omega, am 0 (D 0 y1 - 1) 1 s4 q1 _ F4 Q1 r4 e4' (fun _ => p1) rfl (fun _ => ?_) (by omega) (by omega) (fun m2 q2 y2 F2 G2 Q2 C2 E2 V2 => last m2 q2 y2 F2 G2 Q2 C2 E2 (fun z2 => ?_))⟩
      · unfold hiK
        rw [if_pos rfl, if_neg (by decide), if_pos (by omega), w1]
      · obtain ⟨p2, w2, u2, u2'⟩ := V2 z2
        exact ⟨p2, ⟨w1, u1, u1'⟩, w2, u2, u2'⟩
  · -- thumb
    have c1 : cval 1 2 = 1 := rfl
    unfold T_md_shopPart_0 T_md_shopPart_16 T_md_shopPart_87 T_md_shopPart_156 T_md_shopPart_214 T_md_shopPart_252 T_md_shopPart_269 T_md_shopPart_271 T_md_shopPart_275
    rw [show wr 2 = 2 from rfl]
    refine br_f (by decide) ⟨by decide, br_t (by decide) (br_t (by decide) (br_t (by decide) (br_t (by decide) (br_t (by decide) ?_))))⟩
    refine am 0 8 0 v c _ FrJ.rf hc hC (by rw [hf]; rfl) (fun _ => rfl) rfl (fun _ => rfl) (by omega) (by omega) (fun m1 q1 y1 F1 G1 Q1 C1 E1 V1 => ⟨by decide, fun s4 x4 => ?_⟩)
    obtain ⟨r4, e4⟩ := rxw C1 (by omega) x4
    obtain ⟨a1, a2, a3⟩ := updM_f x4
    refine h s4 q1 (wr1 F1 (by omega) x4) Q1 r4 (by rw [e4, E1]; rfl) (fun z => ?_)
    obtain ⟨p1, w1, u1⟩ := V1 z
    have e12 : s4 34 12 = uA (v 34 12) 2 y1 := by rw [a3, G1.2 12 (by omega)]
    obtain ⟨s1, s2, s3, s4', s5⟩ := hR.2.2.1
    have ek : ∀ k, ¬ k = 2 → MN s4 0 k = MN v 0 k := fun k hk => by show s4 34 12 k = v 34 12 k; rw [e12, uA_n _ hk]
    refine ⟨p1, RSh_ksc hR ⟨?_, by rw [ek 3 (by omega)]; exact s2, by rw [ek 4 (by omega)]; exact s3, by rw [ek 6 (by omega)]; exact s4', by rw [ek 7 (by omega)]; exact s5⟩ (fun j z1 z2 => by show (if j = 8 then _ else D j) = D j; exact if_neg (by omega)) (fun k hk => ek k (by omega)) (fun a ha1 ha9 => ?_), ?_⟩
    · show uA (D 8) 0 (vaS T N c 0) 0 = s4 34 12 2 ∧ 0 ≤ s4 34 12 2 ∧ s4 34 12 2 ≤ 8
      rw [e12, uA_s, uA_s, w1]
      omega
    · show s4 34 (12 + a) = v 34 (12 + a)
      rw [a2 _ (by omega), G1.2 _ (by omega)]
    · rw [e12, uA_n _ (by omega), h1, uA_n _ (by omega)]
  · -- askew
    have c1 : cval 1 3 = 1 := rfl
    unfold T_md_shopPart_0 T_md_shopPart_16 T_md_shopPart_87 T_md_shopPart_156 T_md_shopPart_214 T_md_shopPart_252 T_md_shopPart_269 T_md_shopPart_271 T_md_shopPart_275
    rw [show wr 3 = 3 from rfl]
    refine br_f (by decide) ⟨by decide, br_t (by decide) (br_t (by decide) (br_t (by decide) (br_t (by decide) (br_t (by decide) ?_))))⟩
    refine am 0 8 0 v c _ FrJ.rf hc hC (by rw [hf]; rfl) (fun _ => rfl) rfl (fun _ => rfl) (by omega) (by omega) (fun m1 q1 y1 F1 G1 Q1 C1 E1 V1 => ⟨by decide, fun s4 x4 => ?_⟩)
    obtain ⟨r4, e4⟩ := rxw C1 (by omega) x4
    obtain ⟨a1, a2, a3⟩ := updM_f x4
    refine h s4 q1 (wr1 F1 (by omega) x4) Q1 r4 (by rw [e4, E1]; rfl) (fun z => ?_)
    obtain ⟨p1, w1, u1⟩ := V1 z
    have e12 : s4 34 12 = uA (v 34 12) 3 y1 := by rw [a3, G1.2 12 (by omega)]
    obtain ⟨s1, s2, s3, s4', s5⟩ := hR.2.2.1
    have ek : ∀ k, ¬ k = 3 → MN s4 0 k = MN v 0 k := fun k hk => by show s4 34 12 k = v 34 12 k; rw [e12, uA_n _ hk]
    refine ⟨p1, RSh_ksc hR ⟨by rw [ek 2 (by omega)]; exact s1, ?_, by rw [ek 4 (by omega)]; exact s3, by rw [ek 6 (by omega)]; exact s4', by rw [ek 7 (by omega)]; exact s5⟩ (fun j z1 z2 => by show (if j = 9 then _ else D j) = D j; exact if_neg (by omega)) (fun k hk => ek k (by omega)) (fun a ha1 ha9 => ?_), ?_⟩
    · show uA (D 9) 0 (vaS T N c 0) 0 = s4 34 12 3 ∧ 0 ≤ s4 34 12 3 ∧ s4 34 12 3 ≤ 8
      rw [e12, uA_s, uA_s, w1]
      omega
    · show s4 34 (12 + a) = v 34 (12 + a)
      rw [a2 _ (by omega), G1.2 _ (by omega)]
    · rw [e12, uA_n _ (by omega), h1, uA_n _ (by omega)]
  · -- board
    have c1 : cval 1 4 = 1 := rfl
    unfold T_md_shopPart_0 T_md_shopPart_16 T_md_shopPart_87 T_md_shopPart_156 T_md_shopPart_214 T_md_shopPart_252 T_md_shopPart_271 T_md_shopPart_275
    rw [show wr 4 = 4 from rfl]
    refine br_f (by decide) ⟨by decide, br_t (by decide) (br_t (by decide) (br_t (by decide) (br_t (by decide) (br_f (by decide) ?_))))⟩
    refine am 0 80 0 v c _ FrJ.rf hc hC (by rw [hf]; rfl) (fun _ => rfl) rfl (fun _ => rfl) (by omega) (by omega) (fun m1 q1 y1 F1 G1 Q1 C1 E1 V1 => ⟨by decide, fun s4 x4 => ?_⟩)
    obtain ⟨r4, e4⟩ := rxw C1 (by omega) x4
    obtain ⟨a1, a2, a3⟩ := updM_f x4
    refine h s4 q1 (wr1 F1 (by omega) x4) Q1 r4 (by rw [e4, E1]; rfl) (fun z => ?_)
    obtain ⟨p1, w1, u1⟩ := V1 z
    have e12 : s4 34 12 = uA (v 34 12) 4 y1 := by rw [a3, G1.2 12 (by omega)]
    obtain ⟨s1, s2, s3, s4', s5⟩ := hR.2.2.1
    have ek : ∀ k, ¬ k = 4 → MN s4 0 k = MN v 0 k := fun k hk => by show s4 34 12 k = v 34 12 k; rw [e12, uA_n _ hk]
    refine ⟨p1, RSh_ksc hR ⟨by rw [ek 2 (by omega)]; exact s1, by rw [ek 3 (by omega)]; exact s2, ?_, by rw [ek 6 (by omega)]; exact s4', by rw [ek 7 (by omega)]; exact s5⟩ (fun j z1 z2 => by show (if j = 10 then _ else D j) = D j; exact if_neg (by omega)) (fun k hk => ek k (by omega)) (fun a ha1 ha9 => ?_), ?_⟩
    · show uA (D 10) 0 (vaS T N c 0) 0 = s4 34 12 4 ∧ 0 ≤ s4 34 12 4 ∧ s4 34 12 4 ≤ 80
      rw [e12, uA_s, uA_s, w1]
      omega
    · show s4 34 (12 + a) = v 34 (12 + a)
      rw [a2 _ (by omega), G1.2 _ (by omega)]
    · rw [e12, uA_n _ (by omega), h1, uA_n _ (by omega)]
  · -- form
    have c8 : cval 1 5 = 8 := rfl
    have en : v 34 12 5 = tl 5 := by rw [d6]; exact hR.2.2.2.1.1.symm
    unfold T_md_shopPart_0 T_md_shopPart_16 T_md_shopPart_87 T_md_shopPart_156 T_md_shopPart_275
    rw [show wr 5 = 5 from rfl, en, wr_id (x := tl 5) (by omega) (by omega)]
    refine br_f (by decide) ⟨by decide, br_t (by decide) (br_t (by decide) (br_f (by decide) ?_))⟩
    refine am 1 80 0 v c _ FrJ.rf hc hC (by rw [hf]; rfl) (fun _ => rfl) rfl (fun _ => rfl) (by omega) (by omega) (fun m1 q1 y1 F1 G1 Q1 C1 E1 V1 => ⟨by omega, fun s4 x4 => ?_⟩)
    obtain ⟨r4, e4⟩ := rxw C1 (by omega) x4
    refine am 1 99 1 s4 q1 _ (wr1 F1 (by omega) x4) Q1 r4 (by rw [e4, E1]) (fun z => (V1 z).1) rfl (fun _ => rfl) (by omega) (by omega) (fun m2 q2 y2 F2 G2 Q2 C2 E2 V2 => ⟨by omega, fun s7 x7 => ?_⟩)
    obtain ⟨r7, e7⟩ := rxw C2 (by omega) x7
    refine am 0 999 2 s7 q2 _ (wr1 F2 (by omega) x7) Q2 r7 (by rw [e7, E2]) (fun z => (V2 z).1) rfl (fun _ => rfl) (by omega) (by omega) (fun m3 q3 y3 F3 G3 Q3 C3 E3 V3 => ⟨by omega, fun s10 x10 => ⟨by decide, by decide, fun s11 x11 => ?_⟩⟩)
    obtain ⟨r10, e10⟩ := rxw C3 (by omega) x10
    obtain ⟨r11, e11⟩ := rxw r10 (by omega) x11
    refine h s11 q3 (wr1 (wr1 F3 (by omega) x10) (by omega) x11) Q3 r11 (by rw [e11, e10, E3]; rfl) (fun z => ?_)
    have z : fFS T N c 5 D 3 = 0 := z
    obtain ⟨p3, w3, u3⟩ := V3 z
    obtain ⟨-, w2, u2⟩ := V2 (fz z)
    obtain ⟨-, w1, u1⟩ := V1 (fz (fz z))
    obtain ⟨a1, a2, a3⟩ := updM_f x4
    obtain ⟨b1, b2, b3⟩ := updM_f x7
    obtain ⟨k1, k2, k3⟩ := updM_f x10
    obtain ⟨j1, j2, j3⟩ := updM_f x11
    have row : ∀ j, 12 ≤ j ∧ j ≤ 18 → s10 34 j = v 34 j := fun j hj => by rw [k2 j (by omega), G3.2 j (by omega), b2 j (by omega), G2.2 j (by omega), a2 j (by omega), G1.2 j (by omega)]
    refine ⟨p3, RSh_k5 hR d6 (by omega) (by omega) (by omega) (by omega) ?_ ?_ ?_ ?_ (fun a a5 a9 => ?_), ?_⟩
    · show s11 34 19 = uA (v 34 19) (tl 5) _
      rw [j2 19 (by omega), k2 19 (by omega), G3.2 19 (by omega), b2 19 (by omega), G2.2 19 (by omega), a3, G1.2 19 (by omega), w1]
    · show s11 34 20 = uA (v 34 20) (tl 5) _
      rw [j2 20 (by omega), k2 20 (by omega), G3.2 20 (by omega), b3, G2.2 20 (by omega), a2 20 (by omega), G1.2 20 (by omega), w2]
    · show s11 34 21 = uA (v 34 21) (tl 5) _
      rw [j2 21 (by omega), k3, G3.2 21 (by omega), b2 21 (by omega), G2.2 21 (by omega), a2 21 (by omega), G1.2 21 (by omega), w3]
    · show s11 34 12 = uA (v 34 12) 5 (tl 5 + 1)
      rw [j3, row 12 (by omega), en]
    · show s11 34 (12 + a) = v 34 (12 + a)
      rw [j2 _ (by omega), row _ (by omega)]
    · rw [j3, uA_n _ (by omega), row 12 (by omega), h1, uA_n _ (by omega)]
  · -- pair
    have c1 : cval 1 6 = 1 := rfl
    unfold T_md_shopPart_0 T_md_shopPart_15 T_md_shopPart_16 T_md_shopPart_87 T_md_shopPart_156 T_md_shopPart_214 T_md_shopPart_275
    rw [show wr 6 = 6 from rfl]
    refine br_t (by decide) (br_t (by decide) (br_t (by decide) (br_t (by decide) (br_f (by decide) ?_))))
    refine am 1 80 0 v c _ FrJ.rf hc hC (by rw [hf]; rfl) (fun _ => rfl) rfl (fun _ => rfl) (by omega) (by omega) (fun m1 q1 y1 F1 G1 Q1 C1 E1 V1 s4 x4 => ?_)
    obtain ⟨r4, e4⟩ := rxw C1 (by omega) x4
    refine am 0 999 1 s4 q1 _ (wr1 F1 (by omega) x4) Q1 r4 (by rw [e4, E1]) (fun z => (V1 z).1) rfl (fun _ => rfl) (by omega) (by omega) (fun m2 q2 y2 F2 G2 Q2 C2 E2 V2 s7 x7 => ?_)
    obtain ⟨r7, e7⟩ := rxw C2 (by omega) x7
    obtain ⟨a1, a2, a3⟩ := updM_f x4
    obtain ⟨b1, b2, b3⟩ := updM_f x7
    refine h s7 q2 (wr1 F2 (by omega) x7) Q2 r7 (by rw [e7, E2]; rfl) (fun z => ?_)
    have z : fFS T N c 6 D 2 = 0 := z
    obtain ⟨p2, w2, u2⟩ := V2 z
    obtain ⟨-, w1, u1⟩ := V1 (fz z)
    have e12 : s7 34 12 = uA (uA (v 34 12) 6 y1) 7 y2 := by rw [b3, G2.2 12 (by omega), a3, G1.2 12 (by omega)]
    obtain ⟨s1, s2, s3, s4', s5⟩ := hR.2.2.1
    have ek : ∀ k, ¬ k = 6 → ¬ k = 7 → MN s7 0 k = MN v 0 k := fun k hk hk7 => by show s7 34 12 k = v 34 12 k; rw [e12, uA_n _ hk7, uA_n _ hk]
    refine ⟨p2, RSh_ksc hR ⟨by rw [ek 2 (by omega) (by omega)]; exact s1, by rw [ek 3 (by omega) (by omega)]; exact s2, by rw [ek 4 (by omega) (by omega)]; exact s3, ?_, ?_⟩ (fun j z1 z2 => ?_) (fun k hk => ek k (by omega) (by omega)) (fun a ha1 ha9 => ?_), ?_⟩
    · show uA (D 15) 0 (vaS T N c 0) 0 = s7 34 12 6 ∧ 0 ≤ s7 34 12 6 ∧ s7 34 12 6 ≤ 80
      rw [e12, uA_s, uA_n _ (show ¬ (6 : Int) = 7 by decide), uA_s, w1]
      omega
    · show uA (D 16) 0 (vaS T N c 1) 0 = s7 34 12 7 ∧ 0 ≤ s7 34 12 7 ∧ s7 34 12 7 ≤ 999
      rw [e12, uA_s, uA_s, w2]
      omega
    · show (if j = 15 then _ else if j = 16 then _ else D j) = D j
      rw [if_neg (by omega), if_neg (by omega)]
    · show s7 34 (12 + a) = v 34 (12 + a)
      rw [b2 _ (by omega), G2.2 _ (by omega), a2 _ (by omega), G1.2 _ (by omega)]
    · rw [e12, uA_n _ (by omega), uA_n _ (by omega), h1, uA_n _ (by omega)]
