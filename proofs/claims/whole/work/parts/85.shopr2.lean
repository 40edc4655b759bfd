/-! ===== SHOP: CLAUSE by CLAUSE ===== -/
def DOK2 (D : Nat → Int → Int) (tl : Int → Int) : Prop := DOK D tl ∧ tl 0 = D 4 0 ∧ tl 1 = D 7 0 ∧ tl 5 = D 14 0
theorem fFS_0 {T : Int → Int} {N c x : Int} {D : Nat → Int → Int} : ∀ n : Nat, fFS T N c x D n = 0 → ∀ j : Nat, j < n → amS T N c x D j = 0
  | 0, _, _, h => absurd h (by omega)
  | n + 1, h, j, hj => by
    have h : (if fFS T N c x D n = 0 then amS T N c x D n else fFS T N c x D n) = 0 := h
    by_cases q : fFS T N c x D n = 0
    · rw [if_pos q] at h
      by_cases e : j = n
      · rw [e]; exact h
      · exact fFS_0 n q j (by omega)
    · rw [if_neg q] at h
      exact absurd h q
theorem am_ok {T : Int → Int} {N lo hi a : Int} (ha : 0 ≤ a) (h : amF T N lo hi a = 0) : ¬ sc (dgT T) N a = a ∧ lo ≤ nuV T N a ∧ nuV T N a ≤ hi := by
  unfold amF at h
  split at h
  · omega
  · next c =>
    split at h
    · omega
    · exact ⟨c, by omega, by omega⟩
theorem va_ok {T : Int → Int} {N c x : Int} {D : Nat → Int → Int} (hc : 0 ≤ c ∧ c ≤ N) {n : Nat} (h : fFS T N c x D n = 0) : ∀ i : Nat, i < n → loK x i ≤ vaS T N c i ∧ vaS T N c i ≤ hiK x D (vaS T N c 0) i := fun i hi => by
  have h1 := fFS_0 n h i hi
  have h2 := cuS_bd (T := T) hc i
  have h3 := sc_bd (P := blT T) h2.2
  exact (am_ok (by omega) h1).2
theorem clC_ok {T : Int → Int} {N p p' : Int} {full : Bool} {D D' : Nat → Int → Int} {tl tl' : Int → Int} (hp : 0 ≤ p ∧ p ≤ N) (hD : DOK2 D tl) (h : clC T N full p D tl 0 p' D' tl') : ∃ x c, (0 ≤ x ∧ x ≤ 6) ∧ ¬ full = true ∧ tl x < cval 1 x ∧ (0 ≤ c ∧ c ≤ N) ∧ (0 ≤ p' ∧ p' ≤ N) ∧ fFS T N c x D (nbK x) = 0 ∧ D' = kpD x (tl x) (vaS T N c) D ∧ tl' = uA tl x (tl x + 1) ∧ DOK2 D' tl' := by
  have hnb := sc_bd (P := blT T) hp.2
  have hwe := sc_bd (P := ltT T) hnb.2
  obtain ⟨x, -, h⟩ := h
  rcases h with ⟨_, h⟩ | ⟨_, _, h⟩ | ⟨hx, hno, hr, hr2⟩
  · omega
  · omega
  · obtain ⟨e1, e2, e3⟩ := hr2 rfl
    generalize sc (ltT T) N (sc (blT T) N p) = c at hwe hr e1 e2
    have hcb : 0 ≤ c ∧ c ≤ N := by omega
    have hcu := cuS_bd (T := T) hcb (nbK x)
    have hv := va_ok hcb hr.symm
    have hlt : tl x < cval 1 x := Int.not_le.mp (fun z => hno (Or.inr z))
    refine ⟨x, c, hx, fun z => hno (Or.inl z), hlt, hcb, by rw [e1]; exact hcu, hr.symm, e2, e3, ?_⟩
    obtain ⟨⟨d1, d2, d3⟩, d4, d5, d6⟩ := hD
    have tl3 : ∀ y, 0 ≤ y → y ≤ 6 → 0 ≤ uA tl x (tl x + 1) y ∧ uA tl x (tl x + 1) y ≤ cval 1 y := fun y y0 y1 => by
      by_cases q : y = x
      · have := d3 x hx.1 hx.2
        rw [uA_e _ q, q]
        omega
      · rw [uA_n _ q]
        exact d3 y y0 y1
    rw [e2, e3]
    rcases kinds7 hx with q | q | q | q | q | q | q <;> subst q
    · have c12 : cval 1 0 = 12 := rfl
      have v0 := hv 0 (by decide)
      have l0 : loK 0 0 = 1 := rfl
      have h0 : hiK 0 D (vaS T N c 0) 0 = 480 := rfl
      refine ⟨⟨?_, fun b b0 b1 => ?_, tl3⟩, ?_, ?_, ?_⟩
      · show 0 ≤ uA (D 4) 0 (tl 0 + 1) 0 ∧ uA (D 4) 0 (tl 0 + 1) 0 ≤ 12
        rw [uA_s]; omega
      · have b1 : b < uA (D 4) 0 (tl 0 + 1) 0 := b1
        rw [uA_s] at b1
        show 0 ≤ uA (D 0) (tl 0) (vaS T N c 0) b ∧ uA (D 0) (tl 0) (vaS T N c 0) b ≤ 480
        by_cases q : b = tl 0
        · rw [uA_e _ q]; omega
        · rw [uA_n _ q]; exact d2 b b0 (by omega)
      · show uA tl 0 (tl 0 + 1) 0 = uA (D 4) 0 (tl 0 + 1) 0
        rw [uA_s, uA_s]
      · show uA tl 0 (tl 0 + 1) 1 = D 7 0
        rw [uA_n _ (by decide)]; exact d5
      · show uA tl 0 (tl 0 + 1) 5 = D 14 0
        rw [uA_n _ (by decide)]; exact d6
    · refine ⟨⟨d1, d2, tl3⟩, ?_, ?_, ?_⟩
      · show uA tl 1 (tl 1 + 1) 0 = D 4 0
        rw [uA_n _ (by decide)]; exact d4
      · show uA tl 1 (tl 1 + 1) 1 = uA (D 7) 0 (tl 1 + 1) 0
        rw [uA_s, uA_s]
      · show uA tl 1 (tl 1 + 1) 5 = D 14 0
        rw [uA_n _ (by decide)]; exact d6
    · exact ⟨⟨d1, d2, tl3⟩, by rw [uA_n _ (by decide)]; exact d4, by rw [uA_n _ (by decide)]; exact d5, by rw [uA_n _ (by decide)]; exact d6⟩
    · exact ⟨⟨d1, d2, tl3⟩, by rw [uA_n _ (by decide)]; exact d4, by rw [uA_n _ (by decide)]; exact d5, by rw [uA_n _ (by decide)]; exact d6⟩
    · exact ⟨⟨d1, d2, tl3⟩, by rw [uA_n _ (by decide)]; exact d4, by rw [uA_n _ (by decide)]; exact d5, by rw [uA_n _ (by decide)]; exact d6⟩
    · refine ⟨⟨d1, d2, tl3⟩, ?_, ?_, ?_⟩
      · show uA tl 5 (tl 5 + 1) 0 = D 4 0
        rw [uA_n _ (by decide)]; exact d4
      · show uA tl 5 (tl 5 + 1) 1 = D 7 0
        rw [uA_n _ (by decide)]; exact d5
      · show uA tl 5 (tl 5 + 1) 5 = uA (D 14) 0 (tl 5 + 1) 0
        rw [uA_s, uA_s]
    · exact ⟨⟨d1, d2, tl3⟩, by rw [uA_n _ (by decide)]; exact d4, by rw [uA_n _ (by decide)]; exact d5, by rw [uA_n _ (by decide)]; exact d6⟩
def shC (T : Int → Int) (N : Int) : Nat → Int → (Nat → Int → Int) → (Int → Int) → Int → (Nat → Int → Int) → Prop
  | 0, _, _, _, _, _ => False
  | f + 1, p, D, tl, r, D' => ∃ rc p1 D1 tl1, clC T N (decide (f = 0)) p D tl rc p1 D1 tl1 ∧ (0 ≤ rc ∧ rc ≤ 5000) ∧
      ((¬ rc = 0 ∧ r = rc) ∨
       (rc = 0 ∧ ((N ≤ sc (blT T) N p1 ∧ r = (if 0 < D1 4 0 then 0 else 1 + 8 * sc (blT T) N p1) ∧ D' = D1) ∨
        (sc (blT T) N p1 < N ∧ ¬ T (sc (blT T) N p1) = 59 ∧ r = 1 + 8 * sc (blT T) N p1) ∨
        (sc (blT T) N p1 < N ∧ T (sc (blT T) N p1) = 59 ∧ shC T N f (sc (blT T) N p1 + 1) D1 tl1 r D'))))
theorem p_sr_read {s : Mem} {T : Int → Int} {N q0 : Int} {Q : Int → Mem → Prop} (hT : TX T N) (hC : CXx s T N q0)
    (h : ∀ t r D0 D' tl0, (∀ o, ¬ (o = 1 ∨ o = 20 ∨ o = 21) → t o = s o) → (0 ≤ r ∧ r ≤ 5000) → (D0 4 0 = 0 ∧ D0 7 0 = 0 ∧ D0 8 0 = 0 ∧ D0 9 0 = 0 ∧ D0 10 0 = 0 ∧ D0 14 0 = 0 ∧ D0 15 0 = 0 ∧ D0 16 0 = 0) → (∀ x, 0 ≤ x → x ≤ 6 → tl0 x = 0) → shC T N 33 0 D0 tl0 r D' → (∃ q, CXx t T N q) → (r = 0 → t 21 = D') → Q r t) : W_sr_read s Q := by
  have hN := hT.1
  refine w_sr_read (b_sr_read_0 (w_sh_clear (b_sh_clear_0 rfl ?_)))
  intro s1 x1 s2 x2 s3 x3 s4 x4 s5 x5 s6 x6 s7 x7 s8 x8
  obtain ⟨a1, a2, a3⟩ := updM_f x1
  obtain ⟨b1, b2, b3⟩ := updM_f x2
  obtain ⟨c1, c2, c3⟩ := updM_f x3
  obtain ⟨d1, d2, d3⟩ := updM_f x4
  obtain ⟨e1, e2, e3⟩ := updM_f x5
  obtain ⟨f1, f2, f3⟩ := updM_f x6
  obtain ⟨g1, g2, g3⟩ := updM_f x7
  obtain ⟨i1, i2, i3⟩ := updM_f x8
  have o8 : ∀ o, ¬ o = 21 → s8 o = s o := fun o q => by rw [i1 o q, g1 o q, f1 o q, e1 o q, d1 o q, c1 o q, b1 o q, a1 o q]
  have z4 : s8 21 4 0 = 0 := by rw [i2 4 (by omega), g2 4 (by omega), f2 4 (by omega), e2 4 (by omega), d2 4 (by omega), c2 4 (by omega), b2 4 (by omega), a3, uA_s]
  have z7 : s8 21 7 0 = 0 := by rw [i2 7 (by omega), g2 7 (by omega), f2 7 (by omega), e2 7 (by omega), d2 7 (by omega), c2 7 (by omega), b3, uA_s]
  have z8 : s8 21 8 0 = 0 := by rw [i2 8 (by omega), g2 8 (by omega), f2 8 (by omega), e2 8 (by omega), d2 8 (by omega), c3, uA_s]
  have z9 : s8 21 9 0 = 0 := by rw [i2 9 (by omega), g2 9 (by omega), f2 9 (by omega), e2 9 (by omega), d3, uA_s]
  have z10 : s8 21 10 0 = 0 := by rw [i2 10 (by omega), g2 10 (by omega), f2 10 (by omega), e3, uA_s]
  have z14 : s8 21 14 0 = 0 := by rw [i2 14 (by omega), g2 14 (by omega), f3, uA_s]
  have z15 : s8 21 15 0 = 0 := by rw [i2 15 (by omega), g3, uA_s]
  have z16 : s8 21 16 0 = 0 := by rw [i3, uA_s]
  have clauses : ∀ f i : Nat, i + f = 33 → ∀ (p : Int) (D : Nat → Int → Int) (tl : Int → Int) (t : Mem), (0 ≤ p ∧ p ≤ N) → (∀ o, ¬ (o = 1 ∨ o = 20 ∨ o = 21) → t o = s o) → CXx t T N p → t 21 = D → t 20 2 = tl → DOK2 D tl → 1 ≤ f → (∀ u r D', (∀ o, ¬ (o = 1 ∨ o = 20 ∨ o = 21) → u o = s o) → (0 ≤ r ∧ r ≤ 5000) → shC T N f p D tl r D' → (∃ q, CXx u T N q) → (r = 0 → u 21 = D') → Q r u) → K_sr_read_35 Q (i : Int) t := by
    intro f
    induction f with
    | zero => exact fun _ _ _ _ _ _ _ _ _ _ _ _ h1 => absurd h1 (by omega)
    | succ f ih =>
      intro i hi p D tl t hp ho hCt eD etl hD _ hk
      refine b_sr_read_35 ?_
      unfold T_sr_read_35 T_sr_read_53
      rw [wr_id (x := (i : Int)) (by omega) (by omega)]
      have go : T_sr_read_54 Q (i : Int) (if decide (f = 0) = true then 1 else 0) t := by
        unfold T_sr_read_54
        refine p_sr_readClause hT hCt hp eD etl hD.1 (fun u r p' D' tl' hu1 hrb hcl hq hr0 => ?_)
        have hou : ∀ o, ¬ (o = 1 ∨ o = 20 ∨ o = 21) → u o = s o := fun o q => by rw [hu1 o q, ho o q]
        rw [wr_id (x := r) (by omega) (by omega)]
        refine ⟨fun c => ?_, fun c => hk u r D hou hrb ⟨r, p', D', tl', hcl, hrb, Or.inl ⟨c, rfl⟩⟩ hq (fun z => absurd z c)⟩
        subst c
        obtain ⟨hC2, e21, e203⟩ := hr0 rfl
        obtain ⟨x, c, hx, hnf, hlt, hcb, hpb, hf0, hD', htl', hD2⟩ := clC_ok hp hD hcl
        have hf : ¬ f = 0 := fun z => hnf (decide_eq_true z)
        unfold T_sr_read_64 T_sr_read_92 T_sr_read_98 T_sr_read_99 T_sr_read_115
        have hnb := sc_bd (P := blT T) hpb.2
        refine p_tx_next hT hC2 hpb (fun u1 G1 C1 => ?_)
        generalize hb : sc (blT T) N p' = b at hnb C1 ⊢
        refine p_tx_peek hT C1 (by omega) ?_
        have hou1 : ∀ o, ¬ (o = 1 ∨ o = 20 ∨ o = 21) → u1 o = s o := fun o q => by rw [G1.1 o (by omega), hou o q]
        have e21' : u1 21 = D' := by rw [G1.1 21 (by omega), e21]
        have e203' : u1 20 2 = tl' := by rw [G1.1 20 (by omega), e203]
        have hpk := pk_bd hT (p := b) (by omega)
        rw [wr_id (x := pk T N b) (by omega) (by omega), e21', wr_id (x := D' 4 0) (by have := hD2.1.1; omega) (by have := hD2.1.1; omega)]
        refine ⟨fun c1 => ?_, fun c1 => ⟨fun c2 => p_tx_fault ?_, fun c2 => ?_⟩⟩
        · have hbN : b < N := Decidable.byContradiction fun z => c1 (if_neg z)
          have epk : pk T N b = T b := if_pos hbN
          refine p_tx_peek hT C1 (by omega) ?_
          rw [epk, wr_id (x := T b) (by have := hT.2 b (by omega) hbN; omega) (by have := hT.2 b (by omega) hbN; omega)]
          refine ⟨fun c3 => p_tx_step C1 (fun u2 G2 C2 => ?_), fun c3 => p_tx_fault ?_⟩
          · have := ih (i + 1) (by omega) (b + 1) D' tl' u2 (by omega) (fun o q => by rw [G2.1 o (by omega), hou1 o q]) C2 (by rw [G2.1 21 (by omega)]; exact e21') (by rw [G2.1 20 (by omega)]; exact e203') hD2 (by omega) (fun w r D'' hw1 hw2 hw3 hw4 hw5 => hk w r D'' hw1 hw2 ⟨0, p', D', tl', hcl, by omega, Or.inr ⟨rfl, Or.inr (Or.inr (by rw [hb]; exact ⟨hbN, c3, hw3⟩))⟩⟩ hw4 hw5)
            rw [show ((i + 1 : Nat) : Int) = (i : Int) + 1 by omega] at this
            exact this
          · exact hk u1 (1 + 8 * b + 0) D' hou1 (by omega) ⟨0, p', D', tl', hcl, by omega, Or.inr ⟨rfl, Or.inr (Or.inl (by rw [hb]; exact ⟨hbN, c3, by omega⟩))⟩⟩ ⟨_, C1⟩ (fun z => by omega)
        · have hbN : N ≤ b := Int.not_lt.mp fun z => by
            have e : pk T N b = T b := if_pos z
            have := hT.2 b (by omega) z
            omega
          exact hk u1 (1 + 8 * b + 0) D' hou1 (by omega) ⟨0, p', D', tl', hcl, by omega, Or.inr ⟨rfl, Or.inl (by rw [hb, if_neg (by omega)]; exact ⟨hbN, by omega, rfl⟩)⟩⟩ ⟨_, C1⟩ (fun z => by omega)
        · have hbN : N ≤ b := Int.not_lt.mp fun z => by
            have e : pk T N b = T b := if_pos z
            have := hT.2 b (by omega) z
            omega
          exact hk u1 0 D' hou1 (by omega) ⟨0, p', D', tl', hcl, by omega, Or.inr ⟨rfl, Or.inl (by rw [hb, if_pos (by omega)]; exact ⟨hbN, rfl, rfl⟩)⟩⟩ ⟨_, C1⟩ (fun _ => e21')
      refine ⟨fun z => by omega, fun _ => ⟨fun c => ?_, fun c => ?_⟩⟩
      · rw [decide_eq_false (show ¬ f = 0 by omega)] at go
        exact go
      · rw [decide_eq_true (show f = 0 by omega)] at go
        exact go
  have init : ∀ d i : Nat, 7 - i = d → i ≤ 7 → ∀ t, (∀ o, ¬ (o = 20 ∨ o = 21) → t o = s o) → t 21 = s8 21 → (∀ x : Int, 0 ≤ x → x < i → t 20 2 x = 0) → K_sr_read_9 Q (i : Int) t := by
    intro d
    induction d with
    | zero =>
      intro i hd hi t ho e21 hz
      refine b_sr_read_9 ?_
      unfold T_sr_read_9 T_sr_read_28
      rw [wr_id (x := (i : Int)) (by omega) (by omega)]
      refine ⟨fun _ => ?_, fun z => by omega⟩
      intro u xu
      obtain ⟨y1, y2, y3⟩ := updM_f xu
      obtain ⟨t1, t2, t3⟩ := hC
      have hz7 : ∀ x, 0 ≤ x → x ≤ 6 → t 20 2 x = 0 := fun x x0 x1 => hz x x0 (by omega)
      refine clauses 33 0 rfl 0 (s8 21) (t 20 2) u (by omega) (fun o q => by rw [y1 o (by omega), ho o (by omega)]) ⟨by rw [y2 0 (by omega), ho 1 (by omega)]; exact t1, by rw [y2 1 (by omega), ho 1 (by omega)]; exact t2, by rw [y3, uA_s]⟩ (by rw [y1 21 (by omega), e21]) (by rw [y1 20 (by omega)]) ⟨⟨by omega, fun b b0 b1 => by omega, fun x x0 x1 => by rw [hz7 x x0 x1]; have := (tab_ok ⟨x0, x1⟩).2.1; omega⟩, by rw [hz7 0 (by omega) (by omega), z4], by rw [hz7 1 (by omega) (by omega), z7], by rw [hz7 5 (by omega) (by omega), z14]⟩ (by omega) (fun w r D' hw1 hw2 hw3 hw4 hw5 => h w r (s8 21) D' (t 20 2) hw1 hw2 ⟨z4, z7, z8, z9, z10, z14, z15, z16⟩ hz7 hw3 hw4 hw5)
    | succ d ih =>
      intro i hd hi t ho e21 hz
      refine b_sr_read_9 ?_
      unfold T_sr_read_9
      rw [wr_id (x := (i : Int)) (by omega) (by omega)]
      refine ⟨fun z => by omega, fun _ => ⟨by omega, fun u xu => ?_⟩⟩
      obtain ⟨y1, y2, y3⟩ := updM_f xu
      have := ih (i + 1) (by omega) (by omega) u (fun o q => by rw [y1 o (by omega), ho o q]) (by rw [y1 21 (by omega), e21]) (fun x x0 x1 => by
        rw [y3]
        by_cases z : x = (i : Int)
        · rw [uA_e _ z]
        · rw [uA_n _ z]
          exact hz x x0 (by omega))
      rw [show ((i + 1 : Nat) : Int) = (i : Int) + 1 by omega] at this
      exact this
  exact init 7 0 (by omega) (by omega) s8 (fun o q => o8 o (by omega)) rfl (fun x x0 x1 => by omega)
