/-! ===== the SALE: the reference's weeks ===== -/
/-- the weeks' table at a half of the row -/
def tbM (t : Mem) (at' L : Int) (F : Int → Int → Int) : Prop := ∀ l x, 0 ≤ l → l < L → 0 ≤ x → x ≤ 480 → t 34 66 (at' + 481 * l + x) = F l x
theorem p_md_sale {E T lo w L : Int} {s : Mem} {Q : Int → Mem → Prop} (h : LF (s 34 28) (s 34 29) L) (eL : s 34 2 16 = L) (hE : 0 ≤ E ∧ E ≤ 480) (hT : 1 ≤ T ∧ T ≤ 60) (hlo : 0 ≤ lo ∧ lo ≤ 50) (ww : wr w = w)
    (hq : ∀ t, FrJ 34 (fun j => j = 66) s t → Q (if w = 0 then (msx (s 34 28) (s 34 29) lo (FW (s 34 28) (s 34 29) lo L (T - 1).toNat) E 0 L.toNat).1 else (msx (s 34 28) (s 34 29) lo (FW (s 34 28) (s 34 29) lo L (T - 1).toNat) E 0 L.toNat).2) t) : T_md_sale_59 Q E T lo w s := by
  have h5 := h.1
  have fin : ∀ i : Int, ∀ t, ∀ at', (at' = 0 ∨ at' = 2405) → 0 ≤ i → i ≤ L → FrJ 34 (fun j => j = 66) s t → tbM t at' L (FW (s 34 28) (s 34 29) lo L (T - 1).toNat) → K_md_sale_213 Q E lo w at' (msx (s 34 28) (s 34 29) lo (FW (s 34 28) (s 34 29) lo L (T - 1).toNat) E 0 i.toNat).2 (msx (s 34 28) (s 34 29) lo (FW (s 34 28) (s 34 29) lo L (T - 1).toNat) E 0 i.toNat).1 i t := by
    refine fun i => ind_up (P := fun i => ∀ t, ∀ at', (at' = 0 ∨ at' = 2405) → 0 ≤ i → i ≤ L → FrJ 34 (fun j => j = 66) s t → tbM t at' L (FW (s 34 28) (s 34 29) lo L (T - 1).toNat) → K_md_sale_213 Q E lo w at' (msx (s 34 28) (s 34 29) lo (FW (s 34 28) (s 34 29) lo L (T - 1).toNat) E 0 i.toNat).2 (msx (s 34 28) (s 34 29) lo (FW (s 34 28) (s 34 29) lo L (T - 1).toNat) E 0 i.toNat).1 i t) L (fun i ih t at' ha h0 h1 hFt hTb => ?_) i
    refine b_md_sale_213 ?_
    unfold T_md_sale_213 T_md_sale_275 T_md_sale_285 T_md_sale_287 T_md_sale_249 T_md_sale_251 T_md_sale_265 T_md_sale_267
    rw [hFt.2 2 (by omega), eL, ww, wr_id (x := L) (by omega) (by omega), wr_id (x := i) (by omega) (by omega)]
    refine ⟨fun c => ?_, fun c => ?_⟩
    · have : i = L := by omega
      subst this
      have hq := hq t hFt
      refine ⟨fun c2 => ?_, fun c2 => ?_⟩
      · rw [if_neg c2] at hq
        exact hq
      · rw [if_pos (by omega)] at hq
        exact hq
    · have bF := FW_bL h hlo (T - 1).toNat
      have b2 := cB_bL (l := i) h bF (by omega) hE.1 hlo
      have b3 := msx_bd (f0 := 0) h bF hE.1 hlo i.toNat (by omega)
      have e28 : t 34 28 = s 34 28 := hFt.2 28 (by omega)
      have e29 : t 34 29 = s 34 29 := hFt.2 29 (by omega)
      refine p_md_coinsBy (F := FW (s 34 28) (s 34 29) lo L (T - 1).toNat) (L := L) (by rw [e28, e29]; exact h) (by omega) hE hlo ha (fun y y0 y1 => hTb i y h0 (by omega) y0 (by omega)) ?_
      rw [e28, e29, wr_id (x := cB (s 34 28) (s 34 29) lo (FW (s 34 28) (s 34 29) lo L (T - 1).toNat) i E) (by omega) (by omega), wr_id (x := (msx (s 34 28) (s 34 29) lo (FW (s 34 28) (s 34 29) lo L (T - 1).toNat) E 0 i.toNat).1) (by omega) (by omega)]
      have em : msx (s 34 28) (s 34 29) lo (FW (s 34 28) (s 34 29) lo L (T - 1).toNat) E 0 (i + 1).toNat = if (msx (s 34 28) (s 34 29) lo (FW (s 34 28) (s 34 29) lo L (T - 1).toNat) E 0 i.toNat).1 < cB (s 34 28) (s 34 29) lo (FW (s 34 28) (s 34 29) lo L (T - 1).toNat) i E then (cB (s 34 28) (s 34 29) lo (FW (s 34 28) (s 34 29) lo L (T - 1).toNat) i E, i) else msx (s 34 28) (s 34 29) lo (FW (s 34 28) (s 34 29) lo L (T - 1).toNat) E 0 i.toNat := by
        rw [show (i + 1).toNat = i.toNat + 1 by omega]
        have e : ((i.toNat : Nat) : Int) = i := by omega
        show (if (msx (s 34 28) (s 34 29) lo (FW (s 34 28) (s 34 29) lo L (T - 1).toNat) E 0 i.toNat).1 < cB (s 34 28) (s 34 29) lo (FW (s 34 28) (s 34 29) lo L (T - 1).toNat) (i.toNat : Int) E then (cB (s 34 28) (s 34 29) lo (FW (s 34 28) (s 34 29) lo L (T - 1).toNat) (i.toNat : Int) E, (i.toNat : Int)) else msx (s 34 28) (s 34 29) lo (FW (s 34 28) (s 34 29) lo L (T - 1).toNat) E 0 i.toNat) = _
        rw [e]
      have ih := ih (by omega) t at' ha (by omega) (by omega) hFt hTb
      rw [em] at ih
      refine ⟨fun c2 => br_t c2 ?_, fun c2 => br_f c2 ?_⟩
      · rw [if_neg (by omega)] at ih
        exact ih
      · rw [if_pos (by omega)] at ih
        exact ih
  have weeks : ∀ k : Int, ∀ t, ∀ at', (at' = 0 ∨ at' = 2405) → 1 ≤ k → k ≤ T → FrJ 34 (fun j => j = 66) s t → tbM t at' L (FW (s 34 28) (s 34 29) lo L (k - 1).toNat) → K_md_sale_90 Q E T lo w at' k t := by
    refine fun k => ind_up (P := fun k => ∀ t, ∀ at', (at' = 0 ∨ at' = 2405) → 1 ≤ k → k ≤ T → FrJ 34 (fun j => j = 66) s t → tbM t at' L (FW (s 34 28) (s 34 29) lo L (k - 1).toNat) → K_md_sale_90 Q E T lo w at' k t) T (fun k ih t at' ha h0 h1 hFt hTb => ?_) k
    refine b_md_sale_90 ?_
    unfold T_md_sale_90 T_md_sale_204
    rw [wr_id (x := T) (by omega) (by omega), wr_id (x := k) (by omega) (by omega)]
    refine ⟨fun c => ?_, fun c => ?_⟩
    · have : k = T := by omega
      subst this
      exact fin 0 t at' ha (by omega) (by omega) hFt hTb
    · have bF := FW_bL h hlo (k - 1).toNat
      have outer : ∀ i : Int, ∀ u, 0 ≤ i → i ≤ 481 → FrJ 34 (fun j => j = 66) s u → tbM u at' L (FW (s 34 28) (s 34 29) lo L (k - 1).toNat) → (∀ l x, 0 ≤ l → l < L → 0 ≤ x → x < i → u 34 66 (2405 - at' + 481 * l + x) = bw (s 34 28) (s 34 29) lo L (FW (s 34 28) (s 34 29) lo L (k - 1).toNat) x (L - l).toNat) → K_md_sale_107 Q E T lo w at' k (2405 - at') i u := by
        refine fun i => ind_up (P := fun i => ∀ u, 0 ≤ i → i ≤ 481 → FrJ 34 (fun j => j = 66) s u → tbM u at' L (FW (s 34 28) (s 34 29) lo L (k - 1).toNat) → (∀ l x, 0 ≤ l → l < L → 0 ≤ x → x < i → u 34 66 (2405 - at' + 481 * l + x) = bw (s 34 28) (s 34 29) lo L (FW (s 34 28) (s 34 29) lo L (k - 1).toNat) x (L - l).toNat) → K_md_sale_107 Q E T lo w at' k (2405 - at') i u) 481 (fun i ihi u i0 i1 hFu hTu hNu => ?_) i
        refine b_md_sale_107 ?_
        unfold T_md_sale_107 T_md_sale_194
        rw [wr_id (x := i) (by omega) (by omega)]
        refine ⟨fun c2 => ?_, fun c2 => ?_⟩
        · refine ih (by omega) u (2405 - at') (by omega) (by omega) (by omega) hFu (fun l x l0 l1 x0 x1 => ?_)
          rw [hNu l x l0 l1 x0 (by omega), show (k + 1 - 1).toNat = (k - 1).toNat + 1 by omega]
          rfl
        · have inner : ∀ j : Int, ∀ v, -1 ≤ j → j < L → FrJ 34 (fun j => j = 66) s v → tbM v at' L (FW (s 34 28) (s 34 29) lo L (k - 1).toNat) → (∀ l x, 0 ≤ l → l < L → 0 ≤ x → x < i → v 34 66 (2405 - at' + 481 * l + x) = bw (s 34 28) (s 34 29) lo L (FW (s 34 28) (s 34 29) lo L (k - 1).toNat) x (L - l).toNat) → (∀ l, j < l → l < L → 0 ≤ l → v 34 66 (2405 - at' + 481 * l + i) = bw (s 34 28) (s 34 29) lo L (FW (s 34 28) (s 34 29) lo L (k - 1).toNat) i (L - l).toNat) → K_md_sale_129 Q E T lo w at' k (2405 - at') i (bw (s 34 28) (s 34 29) lo L (FW (s 34 28) (s 34 29) lo L (k - 1).toNat) i (L - 1 - j).toNat) j v := by
            refine fun j => ind_dn (P := fun j => ∀ v, -1 ≤ j → j < L → FrJ 34 (fun j => j = 66) s v → tbM v at' L (FW (s 34 28) (s 34 29) lo L (k - 1).toNat) → (∀ l x, 0 ≤ l → l < L → 0 ≤ x → x < i → v 34 66 (2405 - at' + 481 * l + x) = bw (s 34 28) (s 34 29) lo L (FW (s 34 28) (s 34 29) lo L (k - 1).toNat) x (L - l).toNat) → (∀ l, j < l → l < L → 0 ≤ l → v 34 66 (2405 - at' + 481 * l + i) = bw (s 34 28) (s 34 29) lo L (FW (s 34 28) (s 34 29) lo L (k - 1).toNat) i (L - l).toNat) → K_md_sale_129 Q E T lo w at' k (2405 - at') i (bw (s 34 28) (s 34 29) lo L (FW (s 34 28) (s 34 29) lo L (k - 1).toNat) i (L - 1 - j).toNat) j v) (-1) (fun j ihj v j0 j1 hFv hTv hNv hIv => ?_) j
            refine b_md_sale_129 ?_
            unfold T_md_sale_129 T_md_sale_188
            rw [wr_id (x := j) (by omega) (by omega)]
            refine ⟨fun c3 => ?_, fun c3 => ?_⟩
            · refine ihi (by omega) v (by omega) (by omega) hFv hTv (fun l x l0 l1 x0 x1 => ?_)
              by_cases q : x = i
              · subst q
                exact hIv l (by omega) l1 l0
              · exact hNv l x l0 l1 x0 (by omega)
            · have b1 := bw_bL h bF (show 0 ≤ i by omega) hlo (L - 1 - j).toNat (by omega)
              have b2 := cB_bL (l := j) h bF (by omega) (show 0 ≤ i by omega) hlo
              have e28 : v 34 28 = s 34 28 := hFv.2 28 (by omega)
              have e29 : v 34 29 = s 34 29 := hFv.2 29 (by omega)
              have put : ∀ z, z = bw (s 34 28) (s 34 29) lo L (FW (s 34 28) (s 34 29) lo L (k - 1).toNat) i (L - j).toNat → T_md_sale_161 Q E T lo w at' k (2405 - at') i j z v := fun z ez => by
                unfold T_md_sale_161
                rw [wr_id (x := 2405 - at' + 481 * j + i) (by omega) (by omega)]
                refine ⟨by omega, fun s4 x4 => ?_⟩
                obtain ⟨d1, d2, d3⟩ := updM_f x4
                have ihj := ihj (by omega) s4 (by omega) (by omega) (hFv.tr ⟨d1, fun j q => d2 j q⟩) (fun l x l0 l1 x0 x1 => by rw [d3, uA_n _ (by omega)]; exact hTv l x l0 l1 x0 x1) (fun l x l0 l1 x0 x1 => by rw [d3, uA_n _ (by omega)]; exact hNv l x l0 l1 x0 x1) (fun l l0 l1 l2 => by
                  rw [d3]
                  by_cases q : l = j
                  · subst q
                    rw [uA_s, ez]
                  · rw [uA_n _ (by omega)]
                    exact hIv l (by omega) l1 l2)
                rw [show L - 1 - (j - 1) = L - j by omega, ← ez] at ihj
                exact ihj
              refine p_md_coinsBy (F := FW (s 34 28) (s 34 29) lo L (k - 1).toNat) (L := L) (by rw [e28, e29]; exact h) (by omega) (by omega) hlo ha (fun y y0 y1 => hTv j y (by omega) j1 y0 (by omega)) ?_
              unfold T_md_sale_159
              rw [e28, e29, wr_id (x := bw (s 34 28) (s 34 29) lo L (FW (s 34 28) (s 34 29) lo L (k - 1).toNat) i (L - 1 - j).toNat) (by omega) (by omega), wr_id (x := cB (s 34 28) (s 34 29) lo (FW (s 34 28) (s 34 29) lo L (k - 1).toNat) j i) (by omega) (by omega)]
              refine ⟨fun c4 => put _ ?_, fun c4 => put _ ?_⟩
              · rw [bw_1 (by omega)]
                omega
              · rw [bw_1 (by omega)]
                omega
          rw [hFu.2 2 (by omega), eL]
          have := inner (L - 1) u (by omega) (by omega) hFu hTu hNu (fun l l0 l1 l2 => by omega)
          rw [show (L - 1 - (L - 1)).toNat = 0 by omega] at this
          exact this
      exact outer 0 t (by omega) (by omega) hFt hTb (fun l x l0 l1 x0 x1 => by omega)
  have zero : ∀ i : Int, ∀ t, 0 ≤ i → i ≤ 2405 → FrJ 34 (fun j => j = 66) s t → (∀ k, 0 ≤ k → k < i → t 34 66 k = 0) → K_md_sale_62 Q E T lo w i t := by
    refine fun i => ind_up (P := fun i => ∀ t, 0 ≤ i → i ≤ 2405 → FrJ 34 (fun j => j = 66) s t → (∀ k, 0 ≤ k → k < i → t 34 66 k = 0) → K_md_sale_62 Q E T lo w i t) 2405 (fun i ih t h0 h1 hFt hz => ?_) i
    refine b_md_sale_62 ?_
    unfold T_md_sale_62 T_md_sale_84
    rw [wr_id (x := i) (by omega) (by omega)]
    refine ⟨fun c => ?_, fun c => ⟨by omega, fun s2 x2 => ?_⟩⟩
    · refine weeks 1 t 0 (by omega) (by omega) (by omega) hFt (fun l x l0 l1 x0 x1 => ?_)
      rw [hz _ (by omega) (by omega)]
      rfl
    · obtain ⟨d1, d2, d3⟩ := updM_f x2
      refine ih (by omega) s2 (by omega) (by omega) (hFt.tr ⟨d1, fun j q => d2 j q⟩) (fun k k0 k1 => ?_)
      rw [d3]
      by_cases q : k = i
      · rw [uA_e _ q]
      · rw [uA_n _ q]
        exact hz k k0 (by omega)
  exact zero 0 s (by omega) (by omega) FrJ.rf (fun k k0 k1 => by omega)
