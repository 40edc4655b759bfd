/-! ===== the SALE on both sides ===== -/
theorem p_sp_work {E T lo L : Int} {s : Mem} {Q : Mem → Prop} (h : LF (s 4 3) (s 4 4) L) (eL : s 4 5 0 = L) (hE : 0 ≤ E ∧ E ≤ 480) (hT : 1 ≤ T ∧ T ≤ 60) (hlo : 0 ≤ lo ∧ lo ≤ 50)
    (hq : ∀ t, FrO (fun o => o = 27) s t → t 27 2 0 = (msx (s 4 3) (s 4 4) lo (FW (s 4 3) (s 4 4) lo L (T - 1).toNat) E (-1) L.toNat).1 → t 27 3 0 = (msx (s 4 3) (s 4 4) lo (FW (s 4 3) (s 4 4) lo L (T - 1).toNat) E (-1) L.toNat).2 → Q t) : W_sp_work 4 E T lo s Q := by
  have h5 := h.1
  refine w_sp_work (b_sp_work_0 rfl ?_)
  intro s1 x1
  obtain ⟨a1, a2, a3⟩ := updM_f x1
  have fin : ∀ i : Int, ∀ t, 0 ≤ i → i ≤ L → FrO (fun o => o = 27) s t → t 27 1 0 = lo → (∀ l x, 0 ≤ l → l < L → 0 ≤ x → x ≤ E → t 27 0 (l * 481 + x) = FW (s 4 3) (s 4 4) lo L (T - 1).toNat l x) → t 27 2 0 = (msx (s 4 3) (s 4 4) lo (FW (s 4 3) (s 4 4) lo L (T - 1).toNat) E (-1) i.toNat).1 → t 27 3 0 = (msx (s 4 3) (s 4 4) lo (FW (s 4 3) (s 4 4) lo L (T - 1).toNat) E (-1) i.toNat).2 → K_sp_work_67 Q 4 E i t := by
    refine fun i => ind_up (P := fun i => ∀ t, 0 ≤ i → i ≤ L → FrO (fun o => o = 27) s t → t 27 1 0 = lo → (∀ l x, 0 ≤ l → l < L → 0 ≤ x → x ≤ E → t 27 0 (l * 481 + x) = FW (s 4 3) (s 4 4) lo L (T - 1).toNat l x) → t 27 2 0 = (msx (s 4 3) (s 4 4) lo (FW (s 4 3) (s 4 4) lo L (T - 1).toNat) E (-1) i.toNat).1 → t 27 3 0 = (msx (s 4 3) (s 4 4) lo (FW (s 4 3) (s 4 4) lo L (T - 1).toNat) E (-1) i.toNat).2 → K_sp_work_67 Q 4 E i t) L (fun i ih t h0 h1 hFt el hTb e2 e3 => ?_) i
    refine b_sp_work_67 rfl ?_
    have e4 : t 4 = s 4 := hFt 4 (by omega)
    unfold T_sp_work_67 T_sp_work_107
    rw [e4, eL, wr_id (x := L) (by omega) (by omega), wr_id (x := i) (by omega) (by omega)]
    refine ⟨fun c => ?_, fun c => ?_⟩
    · have : i = L := by omega
      subst this
      exact hq t hFt e2 e3
    · have bF := FW_bL h hlo (T - 1).toNat
      have b2 := cB_bL (l := i) h bF (by omega) hE.1 hlo
      have b3 := msx_bd (f0 := -1) h bF hE.1 hlo i.toNat (by omega)
      refine p_sp_coinsBy (F := FW (s 4 3) (s 4 4) lo L (T - 1).toNat) (L := L) (lo := lo) (by rw [e4]; exact h) (by omega) hE hlo el (fun y y0 y1 => hTb i y h0 (by omega) y0 y1) ?_
      rw [e4, e2]
      show (wr (cB (s 4 3) (s 4 4) lo (FW (s 4 3) (s 4 4) lo L (T - 1).toNat) i E) ≤ wr _ → _) ∧ (¬ wr (cB (s 4 3) (s 4 4) lo (FW (s 4 3) (s 4 4) lo L (T - 1).toNat) i E) ≤ wr _ → ∀ s5, s5 = updM t 27 2 0 _ → ∀ s6, s6 = updM s5 27 3 0 i → K_sp_work_67 Q 4 E (i + 1) s6)
      rw [wr_id (x := cB (s 4 3) (s 4 4) lo (FW (s 4 3) (s 4 4) lo L (T - 1).toNat) i E) (by omega) (by omega), wr_id (x := (msx (s 4 3) (s 4 4) lo (FW (s 4 3) (s 4 4) lo L (T - 1).toNat) E (-1) i.toNat).1) (by omega) (by omega)]
      have em : msx (s 4 3) (s 4 4) lo (FW (s 4 3) (s 4 4) lo L (T - 1).toNat) E (-1) (i + 1).toNat = if (msx (s 4 3) (s 4 4) lo (FW (s 4 3) (s 4 4) lo L (T - 1).toNat) E (-1) i.toNat).1 < cB (s 4 3) (s 4 4) lo (FW (s 4 3) (s 4 4) lo L (T - 1).toNat) i E then (cB (s 4 3) (s 4 4) lo (FW (s 4 3) (s 4 4) lo L (T - 1).toNat) i E, i) else msx (s 4 3) (s 4 4) lo (FW (s 4 3) (s 4 4) lo L (T - 1).toNat) E (-1) i.toNat := by
        rw [show (i + 1).toNat = i.toNat + 1 by omega]
        have e : ((i.toNat : Nat) : Int) = i := by omega
        show (if (msx (s 4 3) (s 4 4) lo (FW (s 4 3) (s 4 4) lo L (T - 1).toNat) E (-1) i.toNat).1 < cB (s 4 3) (s 4 4) lo (FW (s 4 3) (s 4 4) lo L (T - 1).toNat) (i.toNat : Int) E then (cB (s 4 3) (s 4 4) lo (FW (s 4 3) (s 4 4) lo L (T - 1).toNat) (i.toNat : Int) E, (i.toNat : Int)) else msx (s 4 3) (s 4 4) lo (FW (s 4 3) (s 4 4) lo L (T - 1).toNat) E (-1) i.toNat) = _
        rw [e]
      have ih := ih (by omega)
      rw [em] at ih
      refine ⟨fun c2 => ?_, fun c2 s5 x5 s6 x6 => ?_⟩
      · rw [if_neg (by omega)] at ih
        exact ih t (by omega) (by omega) hFt el hTb e2 e3
      · obtain ⟨d1, d2, d3⟩ := updM_f x5
        obtain ⟨f1, f2, f3⟩ := updM_f x6
        rw [if_pos (by omega)] at ih
        exact ih s6 (by omega) (by omega) (fun o ho => by rw [f1 o ho, d1 o ho, hFt o ho]) (by rw [f2 1 (by omega), d2 1 (by omega), el]) (fun l x l0 l1 x0 x1 => by rw [f2 0 (by omega), d2 0 (by omega)]; exact hTb l x l0 l1 x0 x1) (by rw [f2 2 (by omega), d3, uA_s]) (by rw [f3, uA_s])
  have weeks : ∀ k : Int, ∀ t, 1 ≤ k → k ≤ T → FrO (fun o => o = 27) s t → t 27 1 0 = lo → (∀ l x, 0 ≤ l → l < L → 0 ≤ x → x ≤ E → t 27 0 (l * 481 + x) = FW (s 4 3) (s 4 4) lo L (k - 1).toNat l x) → K_sp_work_36 Q 4 E T k t := by
    refine fun k => ind_up (P := fun k => ∀ t, 1 ≤ k → k ≤ T → FrO (fun o => o = 27) s t → t 27 1 0 = lo → (∀ l x, 0 ≤ l → l < L → 0 ≤ x → x ≤ E → t 27 0 (l * 481 + x) = FW (s 4 3) (s 4 4) lo L (k - 1).toNat l x) → K_sp_work_36 Q 4 E T k t) T (fun k ih t h0 h1 hFt el hTb => ?_) k
    refine b_sp_work_36 rfl ?_
    have e4 : t 4 = s 4 := hFt 4 (by omega)
    unfold T_sp_work_36 T_sp_work_54
    rw [wr_id (x := T) (by omega) (by omega), wr_id (x := k) (by omega) (by omega)]
    refine ⟨fun c => ?_, fun c => ?_⟩
    · intro s2 x2 s3 x3
      obtain ⟨d1, d2, d3⟩ := updM_f x2
      obtain ⟨f1, f2, f3⟩ := updM_f x3
      have : k = T := by omega
      subst this
      exact fin 0 s3 (by omega) (by omega) (fun o ho => by rw [f1 o ho, d1 o ho, hFt o ho]) (by rw [f2 1 (by omega), d2 1 (by omega), el]) (fun l x l0 l1 x0 x1 => by rw [f2 0 (by omega), d2 0 (by omega)]; exact hTb l x l0 l1 x0 x1) (by rw [f2 2 (by omega), d3, uA_s]; rfl) (by rw [f3, uA_s]; rfl)
    · refine p_sp_addWeek (F := FW (s 4 3) (s 4 4) lo L (k - 1).toNat) (L := L) (lo := lo) (by rw [e4]; exact h) (by rw [e4]; exact eL) hE hlo el (FW_bL h hlo _) hTb (fun u hFu hu => ?_)
      rw [e4] at hu
      refine ih (by omega) u (by omega) (by omega) (fun o ho => by rw [hFu.1 o ho, hFt o ho]) (by rw [hFu.2 1 (by omega), el]) (fun l x l0 l1 x0 x1 => ?_)
      rw [hu l x l0 l1 x0 x1, show (k + 1 - 1).toNat = (k - 1).toNat + 1 by omega]
      rfl
  have zero : ∀ i : Int, ∀ t, 0 ≤ i → i ≤ 2405 → FrO (fun o => o = 27) s t → t 27 1 0 = lo → (∀ k, 0 ≤ k → k < i → t 27 0 k = 0) → K_sp_work_9 Q 4 E T i t := by
    refine fun i => ind_up (P := fun i => ∀ t, 0 ≤ i → i ≤ 2405 → FrO (fun o => o = 27) s t → t 27 1 0 = lo → (∀ k, 0 ≤ k → k < i → t 27 0 k = 0) → K_sp_work_9 Q 4 E T i t) 2405 (fun i ih t h0 h1 hFt el hz => ?_) i
    refine b_sp_work_9 rfl ?_
    unfold T_sp_work_9 T_sp_work_33
    rw [wr_id (x := i) (by omega) (by omega)]
    refine ⟨fun c => ?_, fun c => ⟨by omega, fun s2 x2 => ?_⟩⟩
    · refine weeks 1 t (by omega) (by omega) hFt el (fun l x l0 l1 x0 x1 => ?_)
      rw [hz _ (by omega) (by omega)]
      rfl
    · obtain ⟨d1, d2, d3⟩ := updM_f x2
      refine ih (by omega) s2 (by omega) (by omega) (fun o ho => by rw [d1 o ho, hFt o ho]) (by rw [d2 1 (by omega), el]) (fun k k0 k1 => ?_)
      rw [d3]
      by_cases q : k = i
      · rw [uA_e _ q]
      · rw [uA_n _ q]
        exact hz k k0 (by omega)
  exact zero 0 s1 (by omega) (by omega) (fun o ho => a1 o ho) (by rw [a3, uA_s]) (fun k k0 k1 => by omega)
theorem p_md_coinsBy {l x lo at' L : Int} {F : Int → Int → Int} {s : Mem} {Q : Int → Mem → Prop} (h : LF (s 34 28) (s 34 29) L) (hl : 0 ≤ l ∧ l < L) (hx : 0 ≤ x ∧ x ≤ 480) (hlo : 0 ≤ lo ∧ lo ≤ 50) (ha : at' = 0 ∨ at' = 2405) (hT : ∀ y, 0 ≤ y → y ≤ x → s 34 66 (at' + 481 * l + y) = F l y) (hq : Q (cB (s 34 28) (s 34 29) lo F l x) s) : W_md_coinsBy l x lo at' s Q := by
  obtain ⟨v1, v2⟩ := h.2 l hl.1 hl.2
  have h5 := h.1
  obtain ⟨p, r1, r2⟩ := rst_bd (mo := s 34 29) (l := l) v2.1 hx.1 hlo
  have go : ∀ g, g = min x (s 34 29 l) → T_md_coinsBy_20 Q l x lo at' g s := by
    rintro g rfl
    unfold T_md_coinsBy_20
    have ed := idv_p (x := (x - min x (s 34 29 l)) * lo) (y := 100) (by omega) (by omega)
    rw [ed, wr_id (x := l) (by omega) (by omega)]
    rintro x2 e2
    have e3 : x2 = rstS (s 34 29) lo l x := e2
    rw [wr_id (x := at' + 481 * l + x2) (by omega) (by omega), e3, hT _ r1 (by omega), Int.mul_comm (min x (s 34 29 l)) (s 34 28 l)]
    exact ⟨by omega, by omega, hq⟩
  refine w_md_coinsBy (b_md_coinsBy_0 ?_)
  unfold T_md_coinsBy_0 T_md_coinsBy_14
  rw [wr_id (x := l) (by omega) (by omega), wr_id (x := x) (by omega) (by omega), wr_id (x := s 34 29 l) (by omega) (by omega)]
  exact ⟨by omega, fun c => ⟨by omega, go _ (by omega)⟩, fun c => go _ (by omega)⟩
