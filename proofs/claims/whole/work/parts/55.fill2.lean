/-! ===== an ORDER is SERVED: the reference's side ===== -/
/-- the reference's rows, counted from c on -/
def Mo (v : Mem) (c : Int → Int) : Nat → Int → Int := fun a k => if a = 0 ∧ 8 ≤ k ∧ k ≤ 11 then MM v a k - c k else MM v a k
theorem Mo_a {v : Mem} {c : Int → Int} {a : Nat} (h : ¬ a = 0) : Mo v c a = MM v a := by
  funext k
  exact if_neg (fun q => h q.1)
theorem Mo_k {v : Mem} {c : Int → Int} {k : Int} (h : ¬ (8 ≤ k ∧ k ≤ 11)) : Mo v c 0 k = v 34 2 k := if_neg (fun q => h q.2)
theorem Mo_c {v : Mem} {c : Int → Int} {k : Int} (h : 8 ≤ k ∧ k ≤ 11) : Mo v c 0 k = v 34 2 k - c k := if_pos ⟨rfl, h⟩
theorem RSh_Mo {S : Nat → Int → Int} {v : Mem} {c : Int → Int} : RSh S (Mo v c) ↔ RSh S (MM v) :=
  ⟨fun h => RSh_u h (fun k _ _ => (Mo_k (by omega)).symm) (fun a _ _ => (Mo_a (by omega)).symm), fun h => RSh_u h (fun k _ _ => Mo_k (by omega)) (fun a _ _ => Mo_a (by omega))⟩
theorem RTo_u {T M M' : Nat → Int → Int} (h : RTo T M) (e0 : ∀ k, 15 ≤ k → k ≤ 17 → M' 0 k = M 0 k) (eM : ∀ a, 14 ≤ a → a ≤ 19 → M' a = M a) : RTo T M' := by
  obtain ⟨h1, h2, h3, h4⟩ := h
  exact ⟨Kno_c h1 (e0 15 (by omega) (by omega)) (eM 14 (by omega) (by omega)) (fun _ _ => rfl), Wei_c h2 (eM 15 (by omega) (by omega)) rfl, Lev_c h3 (e0 16 (by omega) (by omega)) (eM 16 (by omega) (by omega)) (eM 17 (by omega) (by omega)) (fun _ _ _ => rfl), Boo_c h4 (e0 17 (by omega) (by omega)) (eM 18 (by omega) (by omega)) (eM 19 (by omega) (by omega)) (fun _ _ _ => rfl)⟩
def FrV (v m : Mem) : Prop := FrJ 34 (fun j => j = 2 ∨ j = 3 ∨ j = 8 ∨ j = 52 ∨ j = 53) v m
theorem RS_fin {v m : Mem} {c : Int → Int} {S T U S' U' : Nat → Int → Int} {D x7 x8 x9 x10 : Int} (h : RS S T U (Mo v c) D) (hS : RSh S' (MM m)) (hF : FrV v m) (sc : ∀ k, ¬ (8 ≤ k ∧ k ≤ 11) → m 34 2 k = v 34 2 k) (hU : ∀ j, (2 ≤ j ∧ j ≤ 6) ∨ j = 11 ∨ j = 12 → U' j = U j)
    (u7 : U' 7 0 = U 7 0 + x7) (u8 : U' 8 0 = U 8 0 + x8) (u9 : U' 9 0 = U 9 0 + x9) (u10 : U' 10 0 = U 10 0 + x10) (m7 : m 34 2 8 = v 34 2 8 + x7) (m8 : m 34 2 9 = v 34 2 9 + x8) (m9 : m 34 2 10 = v 34 2 10 + x9) (m10 : m 34 2 11 = v 34 2 11 + x10) : RS S' T U' (Mo m c) D := by
  obtain ⟨-, hT, ⟨s1, s2, s3, s4, s5, s6⟩, hE⟩ := h
  have er : ∀ a, 10 ≤ a → a ≤ 19 → Mo m c a = Mo v c a := fun a a0 a1 => by
    rw [Mo_a (by omega), Mo_a (by omega)]
    exact hF.2 _ (by unfold mfld; split <;> omega)
  have es : ∀ k, ¬ (8 ≤ k ∧ k ≤ 11) → Mo m c 0 k = Mo v c 0 k := fun k hk => by
    rw [Mo_k hk, Mo_k hk]
    exact sc k hk
  rw [Mo_c (by omega)] at s1 s2 s3 s4
  refine ⟨RSh_Mo.mpr hS, RTo_u hT (fun k k0 k1 => es k (by omega)) (fun a a0 a1 => er a (by omega) a1), ⟨?_, ?_, ?_, ?_, ?_, ?_⟩, Edn_c hE (es 12 (by omega)) (fun a a0 a1 => er a a0 (by omega)) (fun j j0 j1 => hU j (by omega))⟩
  · rw [Mo_c (by omega), u7, m7]; omega
  · rw [Mo_c (by omega), u8, m8]; omega
  · rw [Mo_c (by omega), u9, m9]; omega
  · rw [Mo_c (by omega), u10, m10]; omega
  · rw [hU 11 (by omega), es 13 (by omega)]; exact s5
  · rw [hU 12 (by omega), es 14 (by omega)]; exact s6
theorem p_md_fill {v : Mem} {r n D res : Int} {c : Int → Int} {R S T U S' U' : Nat → Int → Int} {Q : Int → Mem → Prop} (hr : 0 ≤ r ∧ r < 6) (hRS : RS S T U (Mo v c) D) (hR : RR R (v 34) r) (hC : FillC R S U n res S' U') (hn : 1 ≤ n ∧ n ≤ 480)
    (h : ∀ m, FrV v m → (∀ k, ¬ (8 ≤ k ∧ k ≤ 11) → m 34 2 k = v 34 2 k) → m 34 2 11 = v 34 2 11 + (if res = -1 then 1 else 0) → RS S' T U' (Mo m c) D → Q res m) : W_md_serves r n v Q := by
  have hS := RSh_Mo.mp hRS.1
  have hB : 0 ≤ v 34 2 0 ∧ v 34 2 0 ≤ 12 := hS.1.1
  have e4 : S 4 0 = v 34 2 0 := hS.1.2.1
  have ed : U 11 0 = v 34 2 13 := by
    have := hRS.2.2.1.2.2.2.2.1.1
    rw [Mo_k (by omega)] at this
    exact this
  obtain ⟨c1, c2, c3⟩ := hC
  rw [e4, ed] at c1
  refine p_md_best hr hS hR hn (fun t hF => ?_)
  rw [← c1]
  have hSt := RSh_34 hS hF
  have hRt := RR_34 hR hF
  have t2 : t 34 2 = v 34 2 := hF.2 2 (by omega)
  have FV : FrV v t := hF.mono (fun j q => by omega)
  rcases c3 with ⟨q, rfl, d7, d8, d9, d10⟩ | ⟨⟨b0, b1, b2⟩, S1, hC1, d7, d8, d10, c5⟩
  · subst q
    unfold T_md_serves_97
    refine br_f (by decide) (fun s2 x2 => ?_)
    obtain ⟨y1, y2, y3⟩ := updM_f x2
    rw [t2] at y3
    have FV2 : FrV v s2 := ⟨fun a ha => by rw [y1 a ha, FV.1 a ha], fun j hj => by rw [y2 j (by omega), FV.2 j hj]⟩
    have sc : ∀ k, ¬ (8 ≤ k ∧ k ≤ 11) → s2 34 2 k = v 34 2 k := fun k hk => by rw [y3, uA_n _ (by omega)]
    have m11 : s2 34 2 11 = v 34 2 11 + 1 := by rw [y3, uA_s]
    refine h s2 FV2 sc (by rw [m11]; rfl) (RS_fin (x7 := 0) (x8 := 0) (x9 := 0) (x10 := 1) hRS ?_ FV2 sc c2 (by omega) (by omega) (by omega) (by omega) (by rw [y3, uA_n _ (by omega)]; omega) (by rw [y3, uA_n _ (by omega)]; omega) (by rw [y3, uA_n _ (by omega)]; omega) m11)
    exact RSh_u hS (fun k k0 k1 => sc k (by omega)) (fun a a0 a1 => by show s2 34 _ = v 34 _; rw [y2 _ (by unfold mfld; split <;> omega), hF.2 _ (by unfold mfld; split <;> omega)])
  · have hb : 0 ≤ res ∧ res < v 34 2 0 := by omega
    have hb12 : 0 ≤ res ∧ res < 12 := by omega
    obtain ⟨⟨k1, k2, k3⟩, k4, k5⟩ := tk_bd hS hb hn.1 b2
    obtain ⟨⟨t1, t2', t3⟩, -, ⟨t4, t5, t6⟩, -⟩ := hS.2.2.1
    have t1 : S 8 0 = v 34 2 2 := t1
    have t2' : 0 ≤ v 34 2 2 := t2'
    have t3 : v 34 2 2 ≤ 8 := t3
    have t4 : S 10 0 = v 34 2 4 := t4
    have t5 : 0 ≤ v 34 2 4 := t5
    have t6 : v 34 2 4 ≤ 80 := t6
    have wb : wr res = res := wr_id (by omega) (by omega)
    unfold T_md_serves_97 T_md_serves_115 T_md_serves_180
    rw [wb]
    refine br_t (by omega) (p_md_asks hSt (by rw [t2]; exact hb) hn (fun u hFu hwu => ?_))
    rw [t2] at hwu
    have F2 := hF.tr (F52 hFu)
    refine p_md_isGiven hr (RR_34 hR F2) (fun u2 hFu2 => ?_)
    rw [gvs_wd hwu hR _ _ (by omega) (by have := hR.1.1; omega)]
    have F3 := F2.tr (F53 hFu2)
    have eg : gvs R (wdS S (v 34 2 13) res n) (R 6 0).toNat 0 = gvS R S U res n := by unfold gvS; rw [ed]
    rw [eg]
    rintro hg
    have hSu := RSh_34 hS F3
    have u22 : u2 34 2 = v 34 2 := F3.2 2 (by omega)
    have eM : ∀ a, a < 20 → MM u2 a = MM v a := fun a ha => F3.2 _ (by unfold mfld; split <;> omega)
    rw [u22]
    have p0 : MM v 0 = v 34 2 := rfl
    have ek : tkn (MM u2 1 res) n (v 34 2 2) = tkS S res n := by rw [k1, eM 1 (by omega)]; rfl
    refine p_md_cuts (S := S) hSu (by rw [eM 0 (by omega)]; exact hb) (by rw [eM 1 (by omega)]; omega) (by omega) (fun w x hFw hSw hx => ?_)
    rw [ek] at hSw hx
    have hR1 : RSh S1 (MM w) := RSh_shr hSu hC1 hSw (by rw [eM 0 (by omega)]; exact hb) (by rw [eM 1 (by omega)]; omega)
    have w22 : w 34 2 = v 34 2 := by rw [hFw.2 2 (by omega), u22]
    obtain ⟨y1, y2, y3⟩ := updM_f hx
    rw [updM_s, w22] at y3
    have x2 : x 34 2 = uA (uA (v 34 2) 8 (v 34 2 8 + n)) 9 (v 34 2 9 + (tkS S res n - n)) := y3
    have xj : ∀ j, ¬ j = 2 → x 34 j = w 34 j := fun j hj => by rw [y2 j hj, updM_j _ hj]
    have xo : ∀ a, ¬ a = 34 → x a = v a := fun a ha => by rw [y1 a ha, updM_o _ ha, hFw.1 a ha, F3.1 a ha]
    have hRx : RSh S1 (MM x) := RSh_u hR1 (fun k k0 k1 => by show x 34 2 k = w 34 2 k; rw [x2, w22, uA_n _ (by omega), uA_n _ (by omega)]) (fun a a0 a1 => xj _ (by unfold mfld; split <;> omega))
    have FVx : FrV v x := ⟨xo, fun j hj => by rw [xj j (by omega), hFw.2 j (by omega), F3.2 j (by omega)]⟩
    have scx : ∀ k, ¬ (8 ≤ k ∧ k ≤ 11) → x 34 2 k = v 34 2 k := fun k hk => by rw [x2, uA_n _ (by omega), uA_n _ (by omega)]
    have x8 : x 34 2 8 = v 34 2 8 + n := by rw [x2, uA_n _ (by omega), uA_s]
    have x9 : x 34 2 9 = v 34 2 9 + (tkS S res n - n) := by rw [x2, uA_s]
    have x10 : x 34 2 10 = v 34 2 10 := by rw [x2, uA_n _ (by omega), uA_n _ (by omega)]
    have x11 : x 34 2 11 = v 34 2 11 := by rw [x2, uA_n _ (by omega), uA_n _ (by omega)]
    have xb : x 34 2 0 = v 34 2 0 := scx 0 (by omega)
    obtain ⟨⟨f1, f2, f3⟩, -⟩ := hRx.1.2.2 res hb.1 (by show res < x 34 2 0; omega)
    have f1 : S1 0 res = x 34 3 res := f1
    have f2 : 0 ≤ x 34 3 res := f2
    have f3 : x 34 3 res ≤ 480 := f3
    have xbo : x 34 2 4 = v 34 2 4 := scx 4 (by omega)
    have wg : wr (gvS R S U res n) = gvS R S U res n := wr_id (by omega) (by omega)
    have done1 : S' = S1 → U' 9 0 = U 9 0 → Q res x := fun e e9 => by
      subst e
      exact h x FVx scx (by rw [x11, if_neg (by omega)]; omega) (RS_fin (x7 := n) (x8 := tkS S res n - n) (x9 := 0) (x10 := 0) hRS hRx FVx scx c2 d7 d8 (by omega) (by omega) x8 x9 (by omega) (by omega))
    rw [wg]
    refine ⟨fun cg => ?_, fun cg => ?_⟩
    · rcases c5 with ⟨-, e, e9⟩ | ⟨z, -⟩
      · exact done1 e e9
      · exact absurd cg z.1
    · refine p_md_isEnd wb hb12 (by rw [xbo]; exact ⟨t5, t6⟩) ⟨f2, f3⟩ (zt (fun ce => ?_) (fun ce => ?_))
      · rw [xbo, ← f1, ← t4] at ce
        refine ⟨by omega, fun s10 x10' => ⟨by omega, ?_⟩⟩
        obtain ⟨z1, z2, z3⟩ := updM_f x10'
        have hR10 : RSh S1 (MM s10) := RSh_u hRx (fun k k0 k1 => by show s10 34 2 k = x 34 2 k; rw [z3, uA_n _ (by omega)]) (fun a a0 a1 => z2 _ (by unfold mfld; split <;> omega))
        refine p_md_takes0M hR10 hb12 (by rw [z2 3 (by omega)]; omega) (fun m hFm hSm => ?_)
        rw [z2 3 (by omega), ← f1] at hSm
        rcases c5 with ⟨z, -⟩ | ⟨-, hC2, e9⟩
        · exact absurd ⟨cg, ce⟩ z
        · have s0 : MM s10 0 0 = v 34 2 0 := by show s10 34 2 0 = _; rw [z3, uA_n _ (by omega), xb]
          have s1 : MM s10 1 res = S1 0 res := by show s10 34 3 res = _; rw [z2 3 (by omega), f1]
          have hRm := RSh_shr hR10 hC2 hSm (by rw [s0]; exact hb) (by rw [s1]; omega)
          have m2 : m 34 2 = uA (x 34 2) 10 (x 34 2 10 + x 34 3 res) := by rw [hFm.2 2 (by omega), z3]
          have FVm : FrV v m := ⟨fun a ha => by rw [hFm.1 a ha, z1 a ha, xo a ha], fun j hj => by rw [hFm.2 j (by omega), z2 j (by omega), FVx.2 j hj]⟩
          have scm : ∀ k, ¬ (8 ≤ k ∧ k ≤ 11) → m 34 2 k = v 34 2 k := fun k hk => by rw [m2, uA_n _ (by omega), scx k hk]
          have m11 : m 34 2 11 = v 34 2 11 := by rw [m2, uA_n _ (by omega), x11]
          exact h m FVm scm (by rw [m11, if_neg (by omega)]; omega) (RS_fin (x7 := n) (x8 := tkS S res n - n) (x9 := S1 0 res) (x10 := 0) hRS hRm FVm scm c2 d7 d8 e9 (by omega) (by rw [m2, uA_n _ (by omega), x8]) (by rw [m2, uA_n _ (by omega), x9]) (by rw [m2, uA_s, x10, f1]) (by omega))
      · rw [xbo, ← f1, ← t4] at ce
        rcases c5 with ⟨-, e, e9⟩ | ⟨z, -⟩
        · exact done1 e e9
        · exact absurd z.2 ce
