/-! ===== an ORDER is SERVED ===== -/
def tkS (S : Nat → Int → Int) (b n : Int) : Int := tkn (S 0 b) n (S 8 0)
def gvS (R S U : Nat → Int → Int) (b n : Int) : Int := gvs R (wdS S (U 11 0) b n) (R 6 0).toNat 0
def FillC (R S U : Nat → Int → Int) (n res : Int) (S' U' : Nat → Int → Int) : Prop :=
  res = bbl R S (U 11 0) n (S 4 0).toNat 0 (-1) 0 ∧ (∀ j, (2 ≤ j ∧ j ≤ 6) ∨ j = 11 ∨ j = 12 → U' j = U j) ∧
  ((res = -1 ∧ S' = S ∧ U' 7 0 = U 7 0 ∧ U' 8 0 = U 8 0 ∧ U' 9 0 = U 9 0 ∧ U' 10 0 = U 10 0 + 1) ∨
   ((0 ≤ res ∧ res < S 4 0 ∧ n ≤ S 0 res) ∧ ∃ S1, ShrC S S1 res (tkS S res n) ∧ U' 7 0 = U 7 0 + n ∧ U' 8 0 = U 8 0 + (tkS S res n - n) ∧ U' 10 0 = U 10 0 ∧
    ((¬ (¬ gvS R S U res n = 0 ∧ 1 ≤ S1 0 res ∧ S1 0 res ≤ S 10 0) ∧ S' = S1 ∧ U' 9 0 = U 9 0) ∨
     ((¬ gvS R S U res n = 0 ∧ 1 ≤ S1 0 res ∧ S1 0 res ≤ S 10 0) ∧ ShrC S1 S' res (S1 0 res) ∧ U' 9 0 = U 9 0 + S1 0 res))))
/-- for a row of the class that is cut there is one of the reference -/
theorem shr_ex {S S' M : Nat → Int → Int} {b n : Int} (h : RSh S M) (hc : ShrC S S' b n) (hb : 0 ≤ b ∧ b < M 0 0) (hn : 0 ≤ n ∧ n ≤ M 1 b) : ∃ M', RSh S' M' := by
  refine ⟨fun a => if a = 1 then uA (M 1) b (M 1 b - n) else if a = 6 then (fun k => if M 5 k = b ∧ ¬ M 6 k = -1 then (if M 6 k < n then -1 else M 6 k - n) else M 6 k) else M a, RSh_shr h hc ⟨rfl, fun k _ _ => rfl, ?_, fun a ha => ?_⟩ hb hn⟩
  · show flL (M 5) (fun k => if M 5 k = b ∧ ¬ M 6 k = -1 then (if M 6 k < n then -1 else M 6 k - n) else M 6 k) (M 0 1).toNat = shL b n (flL (M 5) (M 6) (M 0 1).toNat)
    have key : ∀ N : Nat, flL (M 5) (fun k => if M 5 k = b ∧ ¬ M 6 k = -1 then (if M 6 k < n then -1 else M 6 k - n) else M 6 k) N = shL b n (flL (M 5) (M 6) N) := by
      intro N
      induction N with
      | zero => rfl
      | succ N ih =>
        rw [flL_succ, flL_succ, ih]
        by_cases c1 : M 6 (N : Int) = -1
        · rw [if_pos (by rw [if_neg (fun z => z.2 c1)]; exact c1), if_pos c1, List.append_nil, List.append_nil]
        · rw [if_neg c1, shL_app]
          by_cases c2 : M 5 (N : Int) = b
          · by_cases c3 : M 6 (N : Int) < n
            · rw [if_pos (by rw [if_pos ⟨c2, c1⟩, if_pos c3]), if_pos c2, if_pos c3]
            · rw [if_neg (by rw [if_pos ⟨c2, c1⟩, if_neg c3]; omega), if_pos c2, if_neg c3, if_pos ⟨c2, c1⟩, if_neg c3]
          · rw [if_neg (by rw [if_neg (fun z => c2 z.1)]; exact c1), if_neg c2, if_neg (fun z => c2 z.1)]
    exact key _
  · show (if a = 1 then _ else if a = 6 then _ else M a) = M a
    rw [if_neg (fun z => ha (Or.inl z)), if_neg (fun z => ha (Or.inr z))]
theorem tk_bd {S M : Nat → Int → Int} {b n : Int} (h : RSh S M) (hb : 0 ≤ b ∧ b < M 0 0) (hn : 1 ≤ n) (hle : n ≤ S 0 b) : (tkS S b n = tkn (M 1 b) n (M 0 2) ∧ n ≤ tkS S b n ∧ tkS S b n ≤ M 1 b) ∧ S 0 b = M 1 b ∧ M 1 b ≤ 480 := by
  obtain ⟨⟨g1, g2, g3⟩, -⟩ := h.1.2.2 b hb.1 hb.2
  obtain ⟨⟨t1, t2, t3⟩, -⟩ := h.2.2.1
  unfold tkS
  rw [g1, t1]
  refine ⟨⟨rfl, ?_⟩, rfl, g3⟩
  unfold tkn
  split <;> omega
theorem p_sd_fillOrder {o o1 : Nat} {n r : Int} {R M m : Nat → Int → Int} {s : Mem} {Q : Int → Mem → Prop} (ho : cls o = 7) (ho1 : cls o1 = 2) (hne : ¬ o1 = o) (hne2 : ¬ o1 = o + 1) (hS : RSh (s (o + 1)) M) (hE : EqR R s o1) (hR : RR R m r) (hn : 1 ≤ n ∧ n ≤ 480)
    (h : ∀ res t, FrO (fun a => a = o ∨ a = o + 1 ∨ a = o1) s t → EqR R t o1 → (∃ M', RSh (t (o + 1)) M') → FillC R (s (o + 1)) (s o) n res (t (o + 1)) (t o) → Q res t) : W_sd_fillOrder o o1 n s Q := by
  have hB := hS.1.1
  have e4 := hS.1.2.1
  have hw : arrK 4 9 o 13 := ak ho rfl
  refine w_sd_fillOrder (b_sd_fillOrder_0 ho ho1 (p_sd_bestBale ho ho1 hne hne2 hS hE hR hn (fun t hF => ?_)))
  have hbd := bbl_bd R (s (o + 1)) (s o 11 0) n (M 0 0).toNat 0 (-1) 0 (by omega) (Or.inl rfl)
  have eres : bbl R (s (o + 1)) (s o 11 0) n (M 0 0).toNat 0 (-1) 0 = bbl R (s (o + 1)) (s o 11 0) n (s (o + 1) 4 0).toNat 0 (-1) 0 := by rw [e4]
  generalize bbl R (s (o + 1)) (s o 11 0) n (M 0 0).toNat 0 (-1) 0 = b at hbd eres ⊢
  have wb : wr b = b := wr_id (by omega) (by omega)
  have e1 : t (o + 1) = s (o + 1) := hF.1 _ (by omega) (fun q => hne2 q.symm)
  rw [wb]
  refine ⟨fun c => ?_, fun c => ?_⟩
  · obtain ⟨⟨b0, b1⟩, b2⟩ := hbd.resolve_left c
    have hb : 0 ≤ b ∧ b < M 0 0 := by omega
    obtain ⟨⟨k1, k2, k3⟩, k4, k5⟩ := tk_bd hS hb hn.1 b2
    obtain ⟨⟨t1, t2, t3⟩, -, ⟨t4, t5, t6⟩, -⟩ := hS.2.2.1
    unfold T_sd_fillOrder_24 T_sd_fillOrder_105
    refine p_sd_setWords (M := M) ho (by rw [e1]; exact hS) hb hn (fun u hFu hwu => ?_)
    rw [e1, hF.2.1 11 (by omega)] at hwu
    have F2 := hF.tr (FrB.l hne hFu)
    refine p_ru_gives ho1 hw (fun q => hne q.symm) (hE.b F2) hR (fun u2 hFu2 => ?_)
    rw [gvs_wd hwu hR _ _ (by omega) (by have := hR.1.1; omega)]
    have F3 := F2.tr (FrB.r hne hFu2)
    have eg : gvs R (wdS (s (o + 1)) (s o 11 0) b n) (R 6 0).toNat 0 = gvS R (s (o + 1)) (s o) b n := rfl
    rw [eg]
    rintro hg
    have e3 : u2 (o + 1) = s (o + 1) := F3.1 _ (by omega) (fun q => hne2 q.symm)
    rw [e3, t1]
    refine p_sd_sellFrom (M := M) ho (by rw [e3]; exact hS) hb (by omega) (by omega) (fun w hFw hUw h7 h8 hC => ?_)
    rw [e3, ← k1] at hC
    rw [← k1] at h8
    have wUj : ∀ j, ¬ (j = 7 ∨ j = 8 ∨ j = 13) → w o j = s o j := fun j hj => by rw [hUw j (by omega), F3.2.1 j (by omega)]
    have w7 : w o 7 0 = s o 7 0 + n := by rw [h7, F3.2.1 7 (by omega)]
    have w8 : w o 8 0 = s o 8 0 + (tkS (s (o + 1)) b n - n) := by rw [h8, F3.2.1 8 (by omega)]
    have Fw : FrO (fun a => a = o ∨ a = o + 1 ∨ a = o1) s w := fun a ha => by rw [hFw a (by omega), F3.1 a (by omega) (by omega)]
    have Ew : EqR R w o1 := fun j hj => by rw [hFw o1 (by omega)]; exact (hE.b F3) j hj
    obtain ⟨M1, hM1⟩ := shr_ex hS hC hb (by omega)
    have hM10 := hM1.1.1
    have x4 : w (o + 1) 4 0 = s (o + 1) 4 0 := by rw [hC.2.2.2 4 (by omega)]
    have x5 : M1 0 0 = M 0 0 := by rw [← hM1.1.2.1, x4, e4]
    have x10 : w (o + 1) 10 = s (o + 1) 10 := hC.2.2.2 10 (by omega)
    obtain ⟨⟨f1, f2, f3⟩, -⟩ := hM1.1.2.2 b hb.1 (by omega)
    have wg : wr (gvS R (s (o + 1)) (s o) b n) = gvS R (s (o + 1)) (s o) b n := wr_id (by omega) (by omega)
    rw [wg]
    refine ⟨fun cg => ?_, fun cg => ?_⟩
    · exact h b w Fw Ew ⟨M1, hM1⟩ ⟨eres, fun j hj => wUj j (by omega), Or.inr ⟨⟨b0, by omega, b2⟩, w (o + 1), hC, w7, w8, by rw [wUj 10 (by omega)], Or.inl ⟨fun z => z.1 cg, rfl, by rw [wUj 9 (by omega)]⟩⟩⟩
    · refine p_sh_hasEnd (cs7_0 ho) wb (by omega) rfl (by rw [x10, t4]) ⟨t5, t6⟩ (by omega) (zt (fun ce => ?_) (fun ce => ?_))
      · rw [wb]
        refine ⟨by omega, fun s10 x10' => ⟨by omega, ?_⟩⟩
        obtain ⟨y1, y2, y3⟩ := updM_f x10'
        have q1 : s10 (o + 1) = w (o + 1) := y1 _ (by omega)
        obtain ⟨v1, v2⟩ := RSh_vals hM1
        rw [q1]
        refine p_sh_shorten (cs7_0 ho) (by rw [q1]; exact v1) (by omega) (wr_id (by omega) (by omega)) (by rw [q1]; exact v2) (fun z hFz z0 z7 zl => ?_)
        rw [q1] at z0 z7 zl
        have hC2 : ShrC (w (o + 1)) (z (o + 1)) b (w (o + 1) 0 b) := ⟨z0, z7, zl, fun j hj => by rw [hFz.2 j hj, q1]⟩
        have zo : z o = s10 o := hFz.1 o (by omega)
        refine h b z (fun a ha => by rw [hFz.1 a (by omega), y1 a (by omega)]; exact Fw a ha) (fun j hj => by rw [hFz.1 o1 hne2, y1 o1 hne]; exact Ew j hj) (shr_ex hM1 hC2 (by omega) (by omega)) ⟨eres, fun j hj => by rw [zo, y2 j (by omega), wUj j (by omega)], Or.inr ⟨⟨b0, by omega, b2⟩, w (o + 1), hC, by rw [zo, y2 7 (by omega), w7], by rw [zo, y2 8 (by omega), w8], by rw [zo, y2 10 (by omega), wUj 10 (by omega)], Or.inr ⟨⟨cg, ce.1, by rw [t4]; exact ce.2⟩, hC2, by rw [zo, y3, uA_s, wUj 9 (by omega)]⟩⟩⟩
      · exact h b w Fw Ew ⟨M1, hM1⟩ ⟨eres, fun j hj => wUj j (by omega), Or.inr ⟨⟨b0, by omega, b2⟩, w (o + 1), hC, w7, w8, by rw [wUj 10 (by omega)], Or.inl ⟨fun z => ce ⟨z.2.1, by rw [← t4]; exact z.2.2⟩, rfl, by rw [wUj 9 (by omega)]⟩⟩⟩
  · have c : b = -1 := Decidable.byContradiction c
    intro s4 x4
    obtain ⟨y1, y2, y3⟩ := updM_f x4
    have q1 : s4 (o + 1) = s (o + 1) := (y1 _ (by omega)).trans e1
    refine h (-1) s4 (fun a ha => by rw [y1 a (by omega), hF.1 a (by omega) (by omega)]) (fun j hj => by rw [y1 o1 hne]; exact (hE.b hF) j hj) ⟨M, by rw [q1]; exact hS⟩ ⟨by rw [← eres, c], fun j hj => by rw [y2 j (by omega), hF.2.1 j (by omega)], Or.inl ⟨rfl, q1, by rw [y2 7 (by omega), hF.2.1 7 (by omega)], by rw [y2 8 (by omega), hF.2.1 8 (by omega)], by rw [y2 9 (by omega), hF.2.1 9 (by omega)], by rw [y3, uA_s, hF.2.1 10 (by omega)]⟩⟩
