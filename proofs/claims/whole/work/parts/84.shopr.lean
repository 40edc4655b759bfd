/-! ===== SHOP: the class reads ===== -/
/-- what stands of a draft while it is read -/
def DOK (D : Nat → Int → Int) (tl : Int → Int) : Prop := (0 ≤ D 4 0 ∧ D 4 0 ≤ 12) ∧ (∀ b, 0 ≤ b → b < D 4 0 → 0 ≤ D 0 b ∧ D 0 b ≤ 480) ∧ ∀ x, 0 ≤ x → x ≤ 6 → 0 ≤ tl x ∧ tl x ≤ cval 1 x
theorem hiK_bd {x v0 : Int} {D : Nat → Int → Int} {tl : Int → Int} {i : Nat} (hx : 0 ≤ x ∧ x ≤ 6) (hi : i < 4) (hD : DOK D tl) : -1 ≤ hiK x D v0 i ∧ hiK x D v0 i ≤ 999 := by
  obtain ⟨d1, d2, d3⟩ := hD
  unfold hiK
  split
  · split
    · omega
    · split
      · next c => have := d2 v0 c.1 c.2; omega
      · omega
  · have := ((tab_ok hx).2.2 i hi).2
    omega
theorem p_sr_most {x : Int} {i : Nat} {v0 : Int} {D : Nat → Int → Int} {tl : Int → Int} {s : Mem} {Q : Int → Mem → Prop} (hx : 0 ≤ x ∧ x ≤ 6) (hi : i < nbK x) (hD : DOK D tl) (e21 : s 21 = D) (ev : ¬ i = 0 → s 20 1 0 = v0) (hv : -1 ≤ v0 ∧ v0 ≤ 99999) (h : Q (hiK x D v0 i) s) : W_sr_most x (i : Int) s Q := by
  have ht := tab_ok hx
  have hi4 : i < 4 := by omega
  obtain ⟨d1, d2, d3⟩ := hD
  unfold hiK at h
  refine w_sr_most (b_sr_most_0 ?_)
  unfold T_sr_most_0 T_sr_most_15 T_sr_most_29 T_sr_most_64 T_sr_most_65
  rw [wr_id (x := x) (by omega) (by omega), wr_id (x := (i : Int)) (by omega) (by omega), wr_id (x := x * 4 + (i : Int)) (by omega) (by omega), e21]
  refine ⟨fun c => ⟨fun c2 => ?_, fun c2 => ?_⟩, fun c => ⟨by omega, ?_⟩⟩
  · rw [if_pos c, if_neg (by omega)] at h
    rw [ev (by omega)]
    refine p_sh_has rfl (wr_id (by omega) (by omega)) (by rw [e21]) d1 (zt (fun c3 => ?_) (fun c3 => ?_))
    · rw [if_pos c3] at h
      rw [ev (by omega), e21, wr_id (x := v0) (by omega) (by omega)]
      exact ⟨by omega, h⟩
    · rw [if_neg c3] at h
      exact h
  · rw [if_pos c, if_pos (by omega)] at h
    exact h
  · rw [if_neg c] at h
    exact h
theorem fFS_all {T : Int → Int} {N c x : Int} {D : Nat → Int → Int} : ∀ n : Nat, (∀ j : Nat, j < n → amS T N c x D j = 0) → fFS T N c x D n = 0
  | 0, _ => rfl
  | n + 1, h => by
    show (if fFS T N c x D n = 0 then amS T N c x D n else fFS T N c x D n) = 0
    rw [fFS_all n (fun j hj => h j (by omega)), if_pos rfl]
    exact h n (by omega)
theorem fFS_first {T : Int → Int} {N c x : Int} {D : Nat → Int → Int} {i : Nat} (h : ∀ j : Nat, j < i → amS T N c x D j = 0) (h2 : ¬ amS T N c x D i = 0) : ∀ n : Nat, i < n → fFS T N c x D n = amS T N c x D i := by
  intro n hn
  obtain ⟨d, rfl⟩ : ∃ d, n = i + 1 + d := ⟨n - (i + 1), by omega⟩
  induction d with
  | zero =>
    show (if fFS T N c x D i = 0 then amS T N c x D i else fFS T N c x D i) = _
    rw [fFS_all i h, if_pos rfl]
  | succ d ih =>
    have ih := ih (by omega)
    show (if fFS T N c x D (i + 1 + d) = 0 then amS T N c x D (i + 1 + d) else fFS T N c x D (i + 1 + d)) = _
    rw [ih, if_neg h2]
theorem amF_bd {T : Int → Int} {N lo hi a : Int} (ha : 0 ≤ a ∧ a ≤ 400) : 0 ≤ amF T N lo hi a ∧ amF T N lo hi a ≤ 4000 := by
  unfold amF
  split
  · omega
  · split <;> omega
theorem p_sr_readClause {full : Bool} {s : Mem} {T : Int → Int} {N p : Int} {D : Nat → Int → Int} {tl : Int → Int} {Q : Int → Mem → Prop} (hT : TX T N) (hC : CXx s T N p) (hp : 0 ≤ p ∧ p ≤ N) (eD : s 21 = D) (etl : s 20 2 = tl) (hD : DOK D tl)
    (h : ∀ t r p' D' tl', (∀ o, ¬ (o = 1 ∨ o = 20 ∨ o = 21) → t o = s o) → (0 ≤ r ∧ r ≤ 5000) → clC T N full p D tl r p' D' tl' → (∃ q, CXx t T N q) → (r = 0 → CXx t T N p' ∧ t 21 = D' ∧ t 20 2 = tl') → Q r t) : W_sr_readClause (if full = true then 1 else 0) s Q := by
  have hN := hT.1
  have hnb := sc_bd (P := blT T) hp.2
  refine w_sr_readClause (b_sr_readClause_0 (p_tx_next hT hC hp (fun t1 F1 C1 => ?_)))
  generalize hA : sc (blT T) N p = a at hnb C1
  have hwe := sc_bd (P := ltT T) hnb.2
  refine p_tx_readWord (ws := kws) rfl kws_j kws_n (by intro z; cases z) (by decide) hT C1 (by omega) (fun t2 x F2 C2 hx => ?_)
  generalize hE : sc (ltT T) N a = c0 at hwe C2 hx
  have o2 : ∀ o, ¬ o = 1 → t2 o = s o := fun o ho => by rw [F2.1 o ho, F1.1 o ho]
  have hxb := fw_bd (by omega) hx
  have hxb : x = -1 ∨ (0 ≤ x ∧ x ≤ 6) := hxb.elim Or.inl (fun z => Or.inr (by have : kws.length = 7 := rfl; omega))
  rw [wr_id (x := x) (by omega) (by omega)]
  refine ⟨fun c => ?_, fun c => ?_⟩
  · have hx7 := hxb.resolve_left c
    have ht := tab_ok hx7
    have hdt := hD.2.2 x hx7.1 hx7.2
    unfold T_sr_readClause_25 T_sr_readClause_45 T_sr_readClause_51
    rw [wr_id (x := x) (by omega) (by omega), o2 20 (by omega), etl, wr_id (x := tl x) (by omega) (by omega), wr_id (x := cval 1 x) (by omega) (by omega)]
    have fin4 : (full = true ∨ cval 1 x ≤ tl x) → W_tx_fault a 4 t2 (fun r2 s1 => Q r2 s1) := fun z => by
      refine p_tx_fault (h t2 _ 0 D tl (fun o ho => o2 o (by omega)) (by omega) ⟨x, by rw [hA, hE]; exact hx, Or.inr (Or.inl ⟨hx7, z, by rw [hA]⟩)⟩ ⟨_, C2⟩ (fun z => by omega))
    have wfull : wr (if full = true then (1 : Int) else 0) = 0 ↔ ¬ full = true := by
      cases full with
      | false => exact ⟨fun _ => by decide, fun _ => by decide⟩
      | true => exact ⟨fun z => absurd z (by decide), fun z => absurd rfl z⟩
    rw [wfull]
    refine ⟨fun z => fin4 (Or.inl (Decidable.byContradiction z)), fun z => ⟨by omega, by omega, fun c3 => ?_, fun c3 => fin4 (Or.inr (by omega))⟩⟩
    have hno : ¬ (full = true ∨ cval 1 x ≤ tl x) := fun y => y.elim (fun y => z (fun w => w y)) (fun y => by omega)
    have hvb : ∀ i, 0 ≤ vaS T N c0 i ∧ vaS T N c0 i ≤ 99999 := fun i => nuV_bd
    -- number by number
    have loop : ∀ d i : Nat, nbK x - i = d → i ≤ nbK x → (∀ j : Nat, j < i → amS T N c0 x D j = 0) → ∀ t, (∀ o, ¬ (o = 1 ∨ o = 20) → t o = s o) → t 20 2 = tl → CXx t T N (cuS T N c0 i) → (∀ j : Nat, j < i → t 20 1 (j : Int) = vaS T N c0 j) → K_sr_readClause_54 Q x (i : Int) t := by
      intro d
      induction d with
      | zero =>
        intro i hd hi ham t ho e3 hCt hnum
        have ei : i = nbK x := by omega
        refine b_sr_readClause_54 ?_
        unfold T_sr_readClause_54 T_sr_readClause_144
        rw [wr_id (x := x) (by omega) (by omega), wr_id (x := (i : Int)) (by omega) (by omega), wr_id (x := cval 2 x) (by omega) (by omega)]
        refine ⟨by omega, fun _ => ⟨by omega, ?_⟩, fun z => by omega⟩
        rw [e3]
        refine p_sr_keep (va := vaS T N c0) hx7 (by omega) (fun j hj => hnum j (by omega)) (fun u hu1 hu2 => ⟨by omega, by omega, fun s2 x2 => ?_⟩)
        obtain ⟨y1, y2, y3⟩ := updM_f x2
        rw [hu1 20 (by omega), e3] at y3
        rw [ho 21 (by omega), eD] at hu2
        have hC2 : CXx s2 T N (cuS T N c0 i) := by
          obtain ⟨g1, g2, g3⟩ := hCt
          exact ⟨by rw [y1 1 (by omega), hu1 1 (by omega)]; exact g1, by rw [y1 1 (by omega), hu1 1 (by omega)]; exact g2, by rw [y1 1 (by omega), hu1 1 (by omega)]; exact g3⟩
        refine h s2 0 (cuS T N c0 (nbK x)) (kpD x (tl x) (vaS T N c0) D) (uA tl x (tl x + 1)) (fun o q => by rw [y1 o (by omega), hu1 o (by omega), ho o (by omega)]) (by omega) ⟨x, by rw [hA, hE]; exact hx, Or.inr (Or.inr ⟨hx7, hno, ?_, fun _ => ⟨by rw [hA, hE], by rw [hA, hE], rfl⟩⟩)⟩ ⟨_, hC2⟩ (fun _ => ⟨by rw [← ei]; exact hC2, by rw [y1 21 (by omega), hu2], y3⟩)
        rw [hA, hE, fFS_all _ (fun j hj => ham j (by omega))]
      | succ d ih =>
        intro i hd hi ham t ho e3 hCt hnum
        have hi4 : i < 4 := by omega
        have hcu := cuS_bd (T := T) (c := c0) (N := N) (by omega) i
        have hnb2 := sc_bd (P := blT T) hcu.2
        have hva := hvb i
        have hdef : amS T N c0 x D i = amF T N (loK x i) (hiK x D (vaS T N c0 0) i) (sc (blT T) N (cuS T N c0 i)) := rfl
        have hvdef : vaS T N c0 i = nuV T N (sc (blT T) N (cuS T N c0 i)) := rfl
        have hcdef : cuS T N c0 (i + 1) = sc (dgT T) N (sc (blT T) N (cuS T N c0 i)) := rfl
        have hhi := hiK_bd (v0 := vaS T N c0 0) hx7 hi4 hD
        have hlo := (ht.2.2 i hi4).1
        have elo : loK x i = cval 3 (x * 4 + (i : Int)) := rfl
        have ih := ih (i + 1) (by omega) (by omega)
        rw [show ((i + 1 : Nat) : Int) = (i : Int) + 1 by omega, hcdef] at ih
        refine b_sr_readClause_54 ?_
        unfold T_sr_readClause_54
        rw [wr_id (x := x) (by omega) (by omega), wr_id (x := (i : Int)) (by omega) (by omega), wr_id (x := cval 2 x) (by omega) (by omega)]
        refine ⟨by omega, fun z => by omega, fun _ => ⟨fun z => by omega, fun _ => ?_⟩⟩
        refine p_tx_next hT hCt hcu (fun t3 F3 C3 => ?_)
        generalize hB : sc (blT T) N (cuS T N c0 i) = b at hnb2 hdef hvdef hcdef C3 ih
        refine p_tx_readNumber hT C3 (by omega) (fun t4 F4 C4 => ?_)
        have hde := sc_bd (P := dgT T) (N := N) (p := b) (by omega)
        have ho4 : ∀ o, ¬ (o = 1 ∨ o = 20) → t4 o = s o := fun o q => by rw [F4.1 o (by omega), F3.1 o (by omega), ho o q]
        have e34 : t4 20 = t 20 := by rw [F4.1 20 (by omega), F3.1 20 (by omega)]
        have finF : ∀ r, r = amS T N c0 x D i → ¬ r = 0 → (0 ≤ r ∧ r ≤ 5000) → Q r t4 := fun r hr hr0 hrb => by
          refine h t4 r 0 D tl (fun o q => ho4 o (by omega)) hrb ⟨x, by rw [hA, hE]; exact hx, Or.inr (Or.inr ⟨hx7, hno, ?_, fun z => absurd z hr0⟩)⟩ ⟨_, C4⟩ (fun z => absurd z hr0)
          rw [hA, hE, fFS_first ham (by rw [← hr]; exact hr0) (nbK x) (by omega), hr]
        unfold amF at hdef
        unfold nuR
        by_cases q1 : sc (dgT T) N b = b
        · rw [if_pos q1] at hdef ⊢
          refine br_f (by decide) (p_tx_fault (finF _ (by rw [hdef]; omega) (by omega) (by omega)))
        · rw [if_neg q1] at hdef ⊢
          unfold T_sr_readClause_94 T_sr_readClause_123 T_sr_readClause_129
          by_cases q2 : 5 < sc (dgT T) N b - b
          · rw [if_pos (Or.inl q2)] at hdef
            rw [if_pos q2, wr_id (x := x * 4 + (i : Int)) (by omega) (by omega), wr_id (x := cval 3 (x * 4 + (i : Int))) (by omega) (by omega)]
            refine br_t (by decide) ⟨by omega, fun z => absurd z (by rw [show wr 100000 = 100000 from rfl]; omega), fun _ => p_sr_most (D := D) (v0 := vaS T N c0 0) hx7 (by omega) hD (by rw [ho4 21 (by omega)]; exact eD) (fun z => by rw [e34]; exact hnum 0 (by omega)) (by have := hvb 0; omega) ?_⟩
            rw [wr_id (x := hiK x D (vaS T N c0 0) i) (by omega) (by omega)]
            exact br_f (by rw [show wr 100000 = 100000 from rfl]; omega) (p_tx_fault (finF _ hdef.symm (by omega) (by omega)))
          · rw [if_neg q2, wr_id (x := x * 4 + (i : Int)) (by omega) (by omega), wr_id (x := cval 3 (x * 4 + (i : Int))) (by omega) (by omega), ← hvdef, wr_id (x := vaS T N c0 i) (by omega) (by omega)]
            rw [← hvdef, elo] at hdef
            refine br_t (by omega) ⟨by omega, fun z => p_tx_fault (finF _ ?_ (by omega) (by omega)), fun z => p_sr_most (D := D) (v0 := vaS T N c0 0) hx7 (by omega) hD (by rw [ho4 21 (by omega)]; exact eD) (fun z => by rw [e34]; exact hnum 0 (by omega)) (by have := hvb 0; omega) ?_⟩
            · rw [if_pos (Or.inr (Or.inl z))] at hdef
              exact hdef.symm
            · rw [wr_id (x := hiK x D (vaS T N c0 0) i) (by omega) (by omega), wr_id (x := (i : Int)) (by omega) (by omega)]
              refine ⟨fun z2 => ⟨by omega, fun s1 x1 => ?_⟩, fun z2 => p_tx_fault (finF _ ?_ (by omega) (by omega))⟩
              · rw [if_neg (by omega)] at hdef
                obtain ⟨y1, y2, y3⟩ := updM_f x1
                rw [e34] at y3
                refine ih (fun j hj => ?_) s1 (fun o q => by rw [y1 o (by omega), ho4 o q]) (by rw [y2 2 (by omega), e34]; exact e3) ?_ (fun j hj => ?_)
                · by_cases jj : j = i
                  · rw [jj]; exact hdef
                  · exact ham j (by omega)
                · obtain ⟨g1, g2, g3⟩ := C4
                  exact ⟨by rw [y1 1 (by omega)]; exact g1, by rw [y1 1 (by omega)]; exact g2, by rw [y1 1 (by omega)]; exact g3⟩
                · rw [y3]
                  by_cases jj : j = i
                  · rw [jj, uA_s]
                  · rw [uA_n _ (by omega)]
                    exact hnum j (by omega)
              · rw [if_pos (Or.inr (Or.inr (by omega)))] at hdef
                exact hdef.symm
    have := loop (nbK x) 0 (by omega) (by omega) (fun j hj => by omega) t2 (fun o q => o2 o (by omega)) (by rw [o2 20 (by omega)]; exact etl) C2 (fun j hj => by omega)
    exact this
  · have hx1 : x = -1 := Decidable.byContradiction c
    refine p_tx_fault (h t2 _ 0 D tl (fun o ho => o2 o (by omega)) (by omega) ⟨x, by rw [hA, hE]; exact hx, Or.inl ⟨hx1, by rw [hA]; omega⟩⟩ ⟨_, C2⟩ (fun z => by omega))
