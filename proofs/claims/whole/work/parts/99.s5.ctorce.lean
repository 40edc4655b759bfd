/-! ===== constructors: the class's ===== -/
theorem arrV_cg {cI : ClassId} {N : Nat} {f g : Nat → Value} (h : ∀ j, j < N → f j = g j) : arrV cI N f = arrV cI N g := by
  unfold arrV
  have e : (fun j : Fin N => f j.val) = fun j => g j.val := funext fun j => h j.val j.isLt
  rw [e]
def imF (z t i : Nat) : Option Nat := if i < t then some (z + pos (8 + 3 * i, 0)) else none
def ruF (z t i : Nat) : Option Nat := if i < t then some (z + pos (28 + i, 0)) else none
def imE (z : Nat) (cA : Nat → ClassId) (t : Nat) : va_E := .inl (cA 4, 4, .inr (.inr (.inr (.inr (imF z t)))))
def ruE (z : Nat) (cA : Nat → ClassId) (t : Nat) : va_E := .inl (cA 5, 6, .inr (.inr (.inr (.inr (ruF z t)))))
theorem imE_up {D : va_G} {z t a : Nat} {cA : Nat → ClassId} {H : Heap} (h : va_at D vwCl (a, .inl (cA 4, 4, .inr (.inr (.inr (.inr (va_up (imF z t) t (some (z + pos (8 + 3 * t, 0))))))))) H) : va_at D vwCl (a, imE z cA (t + 1)) H := by
  have e : arrV (cA 4) 4 (fun j => va_rf (va_up (imF z t) t (some (z + pos (8 + 3 * t, 0))) j)) = arrV (cA 4) 4 (fun j => va_rf (imF z (t + 1) j)) := arrV_cg fun j _ => by
    unfold va_up imF
    by_cases q : j = t
    · rw [if_pos q, if_pos (by omega), q]
    · rw [if_neg q]
      by_cases q2 : j < t
      · rw [if_pos q2, if_pos (by omega)]
      · rw [if_neg q2, if_neg (by omega)]
  have h : H[a]? = some (arrV (cA 4) 4 (fun j => va_rf (va_up (imF z t) t (some (z + pos (8 + 3 * t, 0))) j))) := h
  show H[a]? = some (arrV (cA 4) 4 (fun j => va_rf (imF z (t + 1) j)))
  rw [← e]
  exact h
theorem ruE_up {D : va_G} {z t a : Nat} {cA : Nat → ClassId} {H : Heap} (h : va_at D vwCl (a, .inl (cA 5, 6, .inr (.inr (.inr (.inr (va_up (ruF z t) t (some (z + pos (28 + t, 0))))))))) H) : va_at D vwCl (a, ruE z cA (t + 1)) H := by
  have e : arrV (cA 5) 6 (fun j => va_rf (va_up (ruF z t) t (some (z + pos (28 + t, 0))) j)) = arrV (cA 5) 6 (fun j => va_rf (ruF z (t + 1) j)) := arrV_cg fun j _ => by
    unfold va_up ruF
    by_cases q : j = t
    · rw [if_pos q, if_pos (by omega), q]
    · rw [if_neg q]
      by_cases q2 : j < t
      · rw [if_pos q2, if_pos (by omega)]
      · rw [if_neg q2, if_neg (by omega)]
  have h : H[a]? = some (arrV (cA 5) 6 (fun j => va_rf (va_up (ruF z t) t (some (z + pos (28 + t, 0))) j))) := h
  show H[a]? = some (arrV (cA 5) 6 (fun j => va_rf (ruF z (t + 1) j)))
  rw [← e]
  exact h
theorem imE_full {D : va_G} {z a : Nat} {cA : Nat → ClassId} {H : Heap} (h : va_at D vwCl (a, imE z cA 4) H) : va_at D vwCl (a, kcell (adZ z) cA s0 (0, 4)) H := by
  have e : arrV (cA 4) 4 (fun j => va_rf (imF z 4 j)) = arrV (cA 4) 4 (fun j => va_rf (some (adZ z (eltC 3 (j : Int), 0)))) := arrV_cg fun j hj => by
    unfold imF
    rw [if_pos hj]
    rfl
  have h : H[a]? = some (arrV (cA 4) 4 (fun j => va_rf (imF z 4 j))) := h
  show H[a]? = some (arrV (cA 4) 4 (fun j => va_rf (some (adZ z (eltC 3 (j : Int), 0)))))
  rw [← e]
  exact h
theorem ruE_full {D : va_G} {z a : Nat} {cA : Nat → ClassId} {H : Heap} (h : va_at D vwCl (a, ruE z cA 6) H) : va_at D vwCl (a, kcell (adZ z) cA s0 (0, 6)) H := by
  have e : arrV (cA 5) 6 (fun j => va_rf (ruF z 6 j)) = arrV (cA 5) 6 (fun j => va_rf (some (adZ z (eltC 5 (j : Int), 0)))) := arrV_cg fun j hj => by
    unfold ruF
    rw [if_pos hj]
    rfl
  have h : H[a]? = some (arrV (cA 5) 6 (fun j => va_rf (ruF z 6 j))) := h
  show H[a]? = some (arrV (cA 5) 6 (fun j => va_rf (some (adZ z (eltC 5 (j : Int), 0)))))
  rw [← e]
  exact h
def Sce_0 : Nat → Bool := fun _ => false
def dce_0 : List (Nat × Nat) := []
def Sce_1 : Nat → Bool := (addS (addS (addS (addS Sce_0 0) 1) 2) 3)
def dce_1 : List (Nat × Nat) := (ds_7 (5) ++ (ds_7 (2) ++ (ds_8 (1) ++ dce_0)))
set_option maxHeartbeats 4000000 in
set_option maxRecDepth 100000 in
theorem c_ce_1 {p : Program} {l : Launch} {e : Env} {R : Room} {s : State} {m : MethodId} {args : Array Value} {below : List Frame} {meth : Method} {c : Code} {H : Heap} {locs : List Loc} {Q : State → Prop} {ls : Array Slot} {D : va_G} {cA : Nat → ClassId} {z : Nat} (hC : CIc p s m args meth c cX11_init 2 D cA RX11) (hex : exN s) (hR : 217 ≤ R.cells ∧ 9010 ≤ R.slots ∧ 3 ≤ R.frames ∧ 120 ≤ R.locals) (hS : va_S (fun q => z + pos (0, 0) ≤ q) s.heap H locs) (hB : CB D z (pos (0, 0) + 1) 0 Sce_0 (fnL (adZ z) cA dce_0) H) (hz : H.size = z + (pos (0, 0) + 1)) (hl : lv_has ls 2 [(0, .ref (z + pos (0, 0)))])
    (kk : ∀ (H1 : Heap) (locs1 : List Loc), CB D z (pos (0, 0) + 48) 0 Sce_1 (fnL (adZ z) cA dce_1) H1 → H1.size = z + (pos (0, 0) + 48) → va_S (fun q => z + pos (0, 0) ≤ q) s.heap H1 locs1 → va_at D vwCl (z + pos (0, 4), imE z cA 0) H1 → W p l e R s m args below meth c H1 locs1 47 859 Q (F0 m 45 ls [])) : W p l e R s m args below meth c H locs 0 0 Q (F0 m 4 ls []) := by
  have hx := hC.1.1
  have hb := hC.1.2.1
  have hown := hC.1.2.2.2.1
  have hts := hC.2.1
  have ho : cls 0 = 11 := rfl
  -- field 0, from 4
  refine lv_aload_n (k := 0) (i := 0) hx hb (dec_at okI_ce 2 rfl) rfl (lv_at hl 0 rfl) ?_
  have hpo := ps_11_1_0
  refine st_new hC hS hz (idx := 7) (o' := 1) (ci := 8) (N := 3) (C := RX8) (T := TX8) rfl rfl hpo (gk_1 28 rfl rfl) (gk_1 29 rfl rfl) (gk_1 2 rfl rfl) (Nat.le_trans (Nat.le_of_ble_eq_true rfl) hR.1) (Nat.le_trans (Nat.le_of_ble_eq_true rfl) hR.2.1) (dec_at okI_ce 3 rfl) (fun H1 he1 hz1 o1 hS1 => ?_)
  refine lv_dup hx hb (dec_at okI_ce 4 rfl) rfl ?_
  refine st_callN hC hS1 hex hz1 (idx := 9) (o' := 1) (As := fun _ => []) (rest := [.ref (z + pos (1, 0)), .ref (z + pos (0, 0))]) (np := 0) hpo (fun q h => by omega) he1 c_tx (gk_1 32 rfl rfl) (gk_1 2 rfl rfl) (List.mem_of_getElem? (i := 0) rfl) (gk_1 31 rfl rfl) rfl ⟨by decide, by decide, by decide +kernel⟩ rfl ⟨(Nat.le_trans (Nat.le_of_ble_eq_true rfl) hR.2.2.1), (Nat.le_trans (Nat.le_of_ble_eq_true rfl) hR.2.2.2)⟩ hl.1 (Nat.le_of_ble_eq_true rfl) (Nat.le_trans (Nat.le_of_ble_eq_true rfl) hR.1) (Nat.le_trans (Nat.le_of_ble_eq_true rfl) hR.2.1) (dec_at okI_ce 5 rfl) (fun H2 locs2 hds hz2 hF hS2 => ?_)
  have hB1 : CB D z (pos (0, 0) + 3) 0 Sce_0 (fnL (adZ z) cA (ds_8 (1) ++ dce_0)) H2 := (hB.grow (pos (0, 0) + 3) (by omega) (fun q hq => (hF q hq).trans (o1 q hq))).addL hds (fun d hd => by have := pd_8 (1) (by decide) rfl d hd; omega)
  refine st_put hC hS2 hB1 (idx := 10) (N := 14) (k := 0) (T := TX11) ho rfl (by decide) (gk_2 205 rfl rfl) (fv_obj (o' := 1) (by rw [ho]; rfl) (by rw [ho]; rfl)) (tyX11_ok 0 (by decide)) rfl rfl (dec_at okI_ce 6 rfl) (fun H3 locs3 hB2 z3 f3 hS3 => ?_)
  have hz2 : H3.size = z + (pos (0, 0) + 3) := by omega
  clear hB hz hS
  have hB := hB2
  have hz := hz2
  have hS := hS3
  clear hB1 hB2 hz1 hz2 hS1 hS2 hS3 he1 o1 hF hds z3 hpo
  -- field 1, from 15
  refine lv_aload_n (k := 0) (i := 0) hx hb (dec_at okI_ce 7 rfl) rfl (lv_at hl 0 rfl) ?_
  have hpo := ps_11_2_0
  refine st_new hC hS hz (idx := 16) (o' := 2) (ci := 7) (N := 14) (C := RX7) (T := TX7) rfl rfl hpo (gk_1 48 rfl rfl) (gk_1 49 rfl rfl) (gk_1 3 rfl rfl) (Nat.le_trans (Nat.le_of_ble_eq_true rfl) hR.1) (Nat.le_trans (Nat.le_of_ble_eq_true rfl) hR.2.1) (dec_at okI_ce 8 rfl) (fun H1 he1 hz1 o1 hS1 => ?_)
  refine lv_dup hx hb (dec_at okI_ce 9 rfl) rfl ?_
  refine st_callN hC hS1 hex hz1 (idx := 18) (o' := 2) (As := fun _ => []) (rest := [.ref (z + pos (2, 0)), .ref (z + pos (0, 0))]) (np := 0) hpo (fun q h => by omega) he1 (c_sd (o := 2) rfl) (gk_1 52 rfl rfl) (gk_1 3 rfl rfl) (List.mem_of_getElem? (i := 1) rfl) (gk_1 51 rfl rfl) rfl ⟨by decide, by decide, by decide +kernel⟩ rfl ⟨(Nat.le_trans (Nat.le_of_ble_eq_true rfl) hR.2.2.1), (Nat.le_trans (Nat.le_of_ble_eq_true rfl) hR.2.2.2)⟩ hl.1 (Nat.le_of_ble_eq_true rfl) (Nat.le_trans (Nat.le_of_ble_eq_true rfl) hR.1) (Nat.le_trans (Nat.le_of_ble_eq_true rfl) hR.2.1) (dec_at okI_ce 10 rfl) (fun H2 locs2 hds hz2 hF hS2 => ?_)
  have hB1 : CB D z (pos (0, 0) + 25) 0 (addS Sce_0 0) (fnL (adZ z) cA (ds_7 (2) ++ (ds_8 (1) ++ dce_0))) H2 := (hB.grow (pos (0, 0) + 25) (by omega) (fun q hq => (hF q hq).trans (o1 q hq))).addL hds (fun d hd => by have := pd_7 (2) (by decide) rfl d hd; omega)
  refine st_put hC hS2 hB1 (idx := 19) (N := 14) (k := 1) (T := TX11) ho rfl (by decide) (gk_2 206 rfl rfl) (fv_obj (o' := 2) (by rw [ho]; rfl) (by rw [ho]; rfl)) (tyX11_ok 1 (by decide)) rfl rfl (dec_at okI_ce 11 rfl) (fun H3 locs3 hB2 z3 f3 hS3 => ?_)
  have hz2 : H3.size = z + (pos (0, 0) + 25) := by omega
  clear hB hz hS
  have hB := hB2
  have hz := hz2
  have hS := hS3
  clear hB1 hB2 hz1 hz2 hS1 hS2 hS3 he1 o1 hF hds z3 hpo
  -- field 2, from 26
  refine lv_aload_n (k := 0) (i := 0) hx hb (dec_at okI_ce 12 rfl) rfl (lv_at hl 0 rfl) ?_
  have hpo := ps_11_5_0
  refine st_new hC hS hz (idx := 16) (o' := 5) (ci := 7) (N := 14) (C := RX7) (T := TX7) rfl rfl hpo (gk_1 48 rfl rfl) (gk_1 49 rfl rfl) (gk_1 3 rfl rfl) (Nat.le_trans (Nat.le_of_ble_eq_true rfl) hR.1) (Nat.le_trans (Nat.le_of_ble_eq_true rfl) hR.2.1) (dec_at okI_ce 13 rfl) (fun H1 he1 hz1 o1 hS1 => ?_)
  refine lv_dup hx hb (dec_at okI_ce 14 rfl) rfl ?_
  refine st_callN hC hS1 hex hz1 (idx := 18) (o' := 5) (As := fun _ => []) (rest := [.ref (z + pos (5, 0)), .ref (z + pos (0, 0))]) (np := 0) hpo (fun q h => by omega) he1 (c_sd (o := 5) rfl) (gk_1 52 rfl rfl) (gk_1 3 rfl rfl) (List.mem_of_getElem? (i := 1) rfl) (gk_1 51 rfl rfl) rfl ⟨by decide, by decide, by decide +kernel⟩ rfl ⟨(Nat.le_trans (Nat.le_of_ble_eq_true rfl) hR.2.2.1), (Nat.le_trans (Nat.le_of_ble_eq_true rfl) hR.2.2.2)⟩ hl.1 (Nat.le_of_ble_eq_true rfl) (Nat.le_trans (Nat.le_of_ble_eq_true rfl) hR.1) (Nat.le_trans (Nat.le_of_ble_eq_true rfl) hR.2.1) (dec_at okI_ce 15 rfl) (fun H2 locs2 hds hz2 hF hS2 => ?_)
  have hB1 : CB D z (pos (0, 0) + 47) 0 (addS (addS Sce_0 0) 1) (fnL (adZ z) cA (ds_7 (5) ++ (ds_7 (2) ++ (ds_8 (1) ++ dce_0)))) H2 := (hB.grow (pos (0, 0) + 47) (by omega) (fun q hq => (hF q hq).trans (o1 q hq))).addL hds (fun d hd => by have := pd_7 (5) (by decide) rfl d hd; omega)
  refine st_put hC hS2 hB1 (idx := 23) (N := 14) (k := 2) (T := TX11) ho rfl (by decide) (gk_2 207 rfl rfl) (fv_obj (o' := 5) (by rw [ho]; rfl) (by rw [ho]; rfl)) (tyX11_ok 2 (by decide)) rfl rfl (dec_at okI_ce 16 rfl) (fun H3 locs3 hB2 z3 f3 hS3 => ?_)
  have hz2 : H3.size = z + (pos (0, 0) + 47) := by omega
  clear hB hz hS
  have hB := hB2
  have hz := hz2
  have hS := hS3
  clear hB1 hB2 hz1 hz2 hS1 hS2 hS3 he1 o1 hF hds z3 hpo
  -- field 3, from 37
  refine lv_aload_n (k := 0) (i := 0) hx hb (dec_at okI_ce 17 rfl) rfl (lv_at hl 0 rfl) ?_
  refine lv_iconst (n := 4) (v := 4) hx hb (dec_at okI_ce 18 rfl) (by decide +kernel) ?_
  refine i_anew hC hS (idx := 16) (N' := 4) (C := "ClothEnds$Stand") (cI := cA 4) (x := 4) (gk_1 48 rfl rfl) hex.1 (by obtain ⟨_, _, _, _, _, hh⟩ := (hC.2.2.2 4 (cA 4, .object "ClothEnds$Stand") rfl).2; exact hh) (by decide +kernel) (by decide +kernel) (Nat.le_of_ble_eq_true rfl) (Nat.le_trans (Nat.le_of_ble_eq_true rfl) hR.1) (Nat.le_trans (Nat.le_of_ble_eq_true rfl) hR.2.1) (dec_at okI_ce 19 rfl) (fun H4 e1 z1 o1 hS1 => ?_)
  have hp4 : pos (0, 4) = pos (0, 0) + 47 := ps_11_0_4
  have he : va_at D vwCl (z + pos (0, 4), imE z cA 0) H4 := by
    rw [hz, ← hp4] at e1
    show H4[z + pos (0, 4)]? = some (arrV (cA 4) 4 (fun j => va_rf (imF z 0 j)))
    rw [← arrV_cg (f := fun _ => .null) (g := fun j => va_rf (imF z 0 j)) (fun j _ => by unfold imF; rw [if_neg (Nat.not_lt_zero j)]; rfl)]
    exact e1
  have hv4 : fieldV (adZ z) s0 0 3 = .ref H3.size := by rw [fieldV_arr (adZ z) s0 rfl, hz, ← hp4]; rfl
  refine st_put hC hS1 (hB.grow (pos (0, 0) + 48) (by omega) (fun q hq => o1 q (by omega))) (idx := 26) (N := 14) (k := 3) (T := TX11) ho rfl (by decide) (gk_2 208 rfl rfl) hv4 (tyX11_ok 3 (by decide)) rfl rfl (dec_at okI_ce 20 rfl) (fun H2 locs2 hB1 z2 f2 hS2 => ?_)
  have hz1 : H2.size = z + (pos (0, 0) + 48) := by omega
  have him : va_at D vwCl (z + pos (0, 4), imE z cA 0) H2 := he.kept (f2 _ (by show ¬ z + pos (0, 4) = z + pos (0, 0); omega))
  clear hB hz hS
  have hB := hB1
  have hz := hz1
  have hS := hS2
  clear hB1 hz1 hS1 hS2
  exact kk _ _ hB hz hS him
def Sce_2 : Nat → Bool := (addS (addS (addS (addS Sce_1 4) 5) 7) 8)
def dce_2 : List (Nat × Nat) := (ds_6 (20) ++ ((0, 8) :: ((0, 5) :: dce_1)))
set_option maxHeartbeats 4000000 in
set_option maxRecDepth 100000 in
theorem c_ce_2 {p : Program} {l : Launch} {e : Env} {R : Room} {s : State} {m : MethodId} {args : Array Value} {below : List Frame} {meth : Method} {c : Code} {H : Heap} {locs : List Loc} {Q : State → Prop} {ls : Array Slot} {D : va_G} {cA : Nat → ClassId} {z : Nat} (hC : CIc p s m args meth c cX11_init 2 D cA RX11) (hex : exN s) (hR : 217 ≤ R.cells ∧ 9010 ≤ R.slots ∧ 3 ≤ R.frames ∧ 120 ≤ R.locals) (hS : va_S (fun q => z + pos (0, 0) ≤ q) s.heap H locs) (hB : CB D z (pos (0, 0) + 48) 0 Sce_1 (fnL (adZ z) cA dce_1) H) (hz : H.size = z + (pos (0, 0) + 48)) (hl : lv_has ls 2 [(0, .ref (z + pos (0, 0)))]) (him : va_at D vwCl (z + pos (0, 4), imE z cA 0) H)
    (kk : ∀ (H1 : Heap) (locs1 : List Loc), CB D z (pos (0, 0) + 64) 0 Sce_2 (fnL (adZ z) cA dce_2) H1 → H1.size = z + (pos (0, 0) + 64) → va_S (fun q => z + pos (0, 0) ≤ q) s.heap H1 locs1 → va_at D vwCl (z + pos (0, 4), imE z cA 0) H1 → va_at D vwCl (z + pos (0, 6), ruE z cA 0) H1 → W p l e R s m args below meth c H1 locs1 63 1007 Q (F0 m 79 ls [])) : W p l e R s m args below meth c H locs 47 859 Q (F0 m 45 ls []) := by
  have hx := hC.1.1
  have hb := hC.1.2.1
  have hown := hC.1.2.2.2.1
  have hts := hC.2.1
  have ho : cls 0 = 11 := rfl
  -- field 4, from 45
  refine lv_aload_n (k := 0) (i := 0) hx hb (dec_at okI_ce 21 rfl) rfl (lv_at hl 0 rfl) ?_
  refine lv_iconst (n := 4) (v := 4) hx hb (dec_at okI_ce 22 rfl) (by decide +kernel) ?_
  refine st_na hC hS hB hz (idx := 30) (ci := 11) (N := 14) (k := 4) (T := TX11) (kd := 5) (N' := 4) (t0 := 2) (dv := .int 0) (x := 4) (atype := .boolean) ho rfl (by decide) rfl (fun w => absurd w.2 (show ¬ 4 = 41 by decide)) (Or.inr (Or.inr (Or.inl ⟨rfl, rfl, rfl, rfl, rfl⟩))) ps_11_0_5 (gk_2 44 rfl rfl) (gk_2 209 rfl rfl) (by decide +kernel) (by decide +kernel) (by decide +kernel) (Nat.le_of_ble_eq_true rfl) (Nat.le_trans (Nat.le_of_ble_eq_true rfl) hR.1) (Nat.le_trans (Nat.le_of_ble_eq_true rfl) hR.2.1) (dec_at okI_ce 23 rfl) (dec_at okI_ce 24 rfl) (fun H1 locs1 hB1 hz1 hf1 hS1 => ?_)
  have him1 : va_at D vwCl (z + pos (0, 4), imE z cA 0) H1 := him.kept (hf1 _ (by have := ps_11_0_4; show z + pos (0, 4) < z + (pos (0, 0) + 48); omega) (by have := ps_11_0_4; show ¬ z + pos (0, 4) = z + pos (0, 0); omega))
  clear him
  have him := him1
  clear him1
  clear hB hz hS hf1
  have hB : CB D z (pos (0, 0) + 49) 0 (addS Sce_1 4) (fnL (adZ z) cA ((0, 5) :: dce_1)) H1 := hB1
  have hz : H1.size = z + (pos (0, 0) + 49) := hz1
  have hS := hS1
  clear hB1 hz1 hS1
  -- field 5, from 52
  refine lv_aload_n (k := 0) (i := 0) hx hb (dec_at okI_ce 25 rfl) rfl (lv_at hl 0 rfl) ?_
  refine lv_bipush (n := 6) (v := 6) hx hb (dec_at okI_ce 26 rfl) (by decide +kernel) ?_
  refine i_anew hC hS (idx := 34) (N' := 6) (C := "ClothEnds$Rule") (cI := cA 5) (x := 6) (gk_2 23 rfl rfl) hex.2.1 (by obtain ⟨_, _, _, _, _, hh⟩ := (hC.2.2.2 5 (cA 5, .object "ClothEnds$Rule") rfl).2; exact hh) (by decide +kernel) (by decide +kernel) (Nat.le_of_ble_eq_true rfl) (Nat.le_trans (Nat.le_of_ble_eq_true rfl) hR.1) (Nat.le_trans (Nat.le_of_ble_eq_true rfl) hR.2.1) (dec_at okI_ce 27 rfl) (fun H4 e1 z1 o1 hS1 => ?_)
  have hp4 : pos (0, 6) = pos (0, 0) + 49 := ps_11_0_6
  have he : va_at D vwCl (z + pos (0, 6), ruE z cA 0) H4 := by
    rw [hz, ← hp4] at e1
    show H4[z + pos (0, 6)]? = some (arrV (cA 5) 6 (fun j => va_rf (ruF z 0 j)))
    rw [← arrV_cg (f := fun _ => .null) (g := fun j => va_rf (ruF z 0 j)) (fun j _ => by unfold ruF; rw [if_neg (Nat.not_lt_zero j)]; rfl)]
    exact e1
  have hv4 : fieldV (adZ z) s0 0 5 = .ref H1.size := by rw [fieldV_arr (adZ z) s0 rfl, hz, ← hp4]; rfl
  refine st_put hC hS1 (hB.grow (pos (0, 0) + 50) (by omega) (fun q hq => o1 q (by omega))) (idx := 36) (N := 14) (k := 5) (T := TX11) ho rfl (by decide) (gk_2 210 rfl rfl) hv4 (tyX11_ok 5 (by decide)) rfl rfl (dec_at okI_ce 28 rfl) (fun H2 locs2 hB1 z2 f2 hS2 => ?_)
  have hz1 : H2.size = z + (pos (0, 0) + 50) := by omega
  have hru : va_at D vwCl (z + pos (0, 6), ruE z cA 0) H2 := he.kept (f2 _ (by show ¬ z + pos (0, 6) = z + pos (0, 0); omega))
  have him1 : va_at D vwCl (z + pos (0, 4), imE z cA 0) H2 := (him.kept (o1 _ (by have := ps_11_0_4; show z + pos (0, 4) < Array.size _; omega))).kept (f2 _ (by have := ps_11_0_4; show ¬ z + pos (0, 4) = z + pos (0, 0); omega))
  clear him
  have him := him1
  clear hB hz hS
  have hB := hB1
  have hz := hz1
  have hS := hS2
  clear hB1 hz1 hS1 hS2
  -- field 7, from 61
  refine lv_aload_n (k := 0) (i := 0) hx hb (dec_at okI_ce 29 rfl) rfl (lv_at hl 0 rfl) ?_
  refine lv_iconst (n := 3) (v := 3) hx hb (dec_at okI_ce 30 rfl) (by decide +kernel) ?_
  refine st_na hC hS hB hz (idx := 40) (ci := 11) (N := 14) (k := 7) (T := TX11) (kd := 3) (N' := 3) (t0 := 0) (dv := .int 0) (x := 3) (atype := .int) ho rfl (by decide) rfl (fun w => absurd w.2 (show ¬ 7 = 41 by decide)) (Or.inl ⟨rfl, rfl, rfl, rfl, rfl⟩) ps_11_0_8 (gk_1 47 rfl rfl) (gk_2 212 rfl rfl) (by decide +kernel) (by decide +kernel) (by decide +kernel) (Nat.le_of_ble_eq_true rfl) (Nat.le_trans (Nat.le_of_ble_eq_true rfl) hR.1) (Nat.le_trans (Nat.le_of_ble_eq_true rfl) hR.2.1) (dec_at okI_ce 31 rfl) (dec_at okI_ce 32 rfl) (fun H1 locs1 hB1 hz1 hf1 hS1 => ?_)
  have him1 : va_at D vwCl (z + pos (0, 4), imE z cA 0) H1 := him.kept (hf1 _ (by have := ps_11_0_4; show z + pos (0, 4) < z + (pos (0, 0) + 50); omega) (by have := ps_11_0_4; show ¬ z + pos (0, 4) = z + pos (0, 0); omega))
  clear him
  have him := him1
  clear him1
  have hru1 : va_at D vwCl (z + pos (0, 6), ruE z cA 0) H1 := hru.kept (hf1 _ (by have := ps_11_0_6; show z + pos (0, 6) < z + (pos (0, 0) + 50); omega) (by have := ps_11_0_6; show ¬ z + pos (0, 6) = z + pos (0, 0); omega))
  clear hru
  have hru := hru1
  clear hru1
  clear hB hz hS hf1
  have hB : CB D z (pos (0, 0) + 51) 0 (addS (addS (addS Sce_1 4) 5) 7) (fnL (adZ z) cA ((0, 8) :: ((0, 5) :: dce_1))) H1 := hB1
  have hz : H1.size = z + (pos (0, 0) + 51) := hz1
  have hS := hS1
  clear hB1 hz1 hS1
  -- field 8, from 68
  refine lv_aload_n (k := 0) (i := 0) hx hb (dec_at okI_ce 33 rfl) rfl (lv_at hl 0 rfl) ?_
  have hpo := ps_11_20_0
  refine st_new hC hS hz (idx := 44) (o' := 20) (ci := 6) (N := 3) (C := RX6) (T := TX6) rfl rfl hpo (gk_2 25 rfl rfl) (gk_2 26 rfl rfl) (gk_1 6 rfl rfl) (Nat.le_trans (Nat.le_of_ble_eq_true rfl) hR.1) (Nat.le_trans (Nat.le_of_ble_eq_true rfl) hR.2.1) (dec_at okI_ce 34 rfl) (fun H1 he1 hz1 o1 hS1 => ?_)
  refine lv_dup hx hb (dec_at okI_ce 35 rfl) rfl ?_
  refine st_callN hC hS1 hex hz1 (idx := 46) (o' := 20) (As := fun _ => []) (rest := [.ref (z + pos (20, 0)), .ref (z + pos (0, 0))]) (np := 0) hpo (fun q h => by omega) he1 c_sr (gk_2 29 rfl rfl) (gk_1 6 rfl rfl) (List.mem_of_getElem? (i := 2) rfl) (gk_2 28 rfl rfl) rfl ⟨by decide, by decide, by decide +kernel⟩ rfl ⟨(Nat.le_trans (Nat.le_of_ble_eq_true rfl) hR.2.2.1), (Nat.le_trans (Nat.le_of_ble_eq_true rfl) hR.2.2.2)⟩ hl.1 (Nat.le_of_ble_eq_true rfl) (Nat.le_trans (Nat.le_of_ble_eq_true rfl) hR.1) (Nat.le_trans (Nat.le_of_ble_eq_true rfl) hR.2.1) (dec_at okI_ce 36 rfl) (fun H2 locs2 hds hz2 hF hS2 => ?_)
  have hB1 : CB D z (pos (0, 0) + 64) 0 (addS (addS (addS Sce_1 4) 5) 7) (fnL (adZ z) cA (ds_6 (20) ++ ((0, 8) :: ((0, 5) :: dce_1)))) H2 := (hB.grow (pos (0, 0) + 64) (by omega) (fun q hq => (hF q hq).trans (o1 q hq))).addL hds (fun d hd => by have := pd_6 (20) (by decide) rfl d hd; omega)
  refine st_put hC hS2 hB1 (idx := 47) (N := 14) (k := 8) (T := TX11) ho rfl (by decide) (gk_2 213 rfl rfl) (fv_obj (o' := 20) (by rw [ho]; rfl) (by rw [ho]; rfl)) (tyX11_ok 8 (by decide)) rfl rfl (dec_at okI_ce 37 rfl) (fun H3 locs3 hB2 z3 f3 hS3 => ?_)
  have hz2 : H3.size = z + (pos (0, 0) + 64) := by omega
  have him1 : va_at D vwCl (z + pos (0, 4), imE z cA 0) H3 := ((him.kept (o1 _ (by have := ps_11_0_4; show z + pos (0, 4) < z + (pos (0, 0) + 51); omega))).kept (hF _ (by have := ps_11_0_4; show z + pos (0, 4) < z + (pos (0, 0) + 51); omega))).kept (f3 _ (by have := ps_11_0_4; show ¬ z + pos (0, 4) = z + pos (0, 0); omega))
  clear him
  have him := him1
  clear him1
  have hru1 : va_at D vwCl (z + pos (0, 6), ruE z cA 0) H3 := ((hru.kept (o1 _ (by have := ps_11_0_6; show z + pos (0, 6) < z + (pos (0, 0) + 51); omega))).kept (hF _ (by have := ps_11_0_6; show z + pos (0, 6) < z + (pos (0, 0) + 51); omega))).kept (f3 _ (by have := ps_11_0_6; show ¬ z + pos (0, 6) = z + pos (0, 0); omega))
  clear hru
  have hru := hru1
  clear hru1
  clear hB hz hS
  have hB := hB2
  have hz := hz2
  have hS := hS3
  clear hB1 hB2 hz1 hz2 hS1 hS2 hS3 he1 o1 hF hds z3 hpo
  exact kk _ _ hB hz hS him hru
def Sce_3 : Nat → Bool := (addS (addS (addS (addS Sce_2 9) 10) 11) 12)
def dce_3 : List (Nat × Nat) := (ds_10 (26) ++ (ds_1 (25) ++ (ds_0 (24) ++ (ds_3 (22) ++ dce_2))))
set_option maxHeartbeats 4000000 in
set_option maxRecDepth 100000 in
theorem c_ce_3 {p : Program} {l : Launch} {e : Env} {R : Room} {s : State} {m : MethodId} {args : Array Value} {below : List Frame} {meth : Method} {c : Code} {H : Heap} {locs : List Loc} {Q : State → Prop} {ls : Array Slot} {D : va_G} {cA : Nat → ClassId} {z : Nat} (hC : CIc p s m args meth c cX11_init 2 D cA RX11) (hex : exN s) (hR : 217 ≤ R.cells ∧ 9010 ≤ R.slots ∧ 3 ≤ R.frames ∧ 120 ≤ R.locals) (hS : va_S (fun q => z + pos (0, 0) ≤ q) s.heap H locs) (hB : CB D z (pos (0, 0) + 64) 0 Sce_2 (fnL (adZ z) cA dce_2) H) (hz : H.size = z + (pos (0, 0) + 64)) (hl : lv_has ls 2 [(0, .ref (z + pos (0, 0)))]) (him : va_at D vwCl (z + pos (0, 4), imE z cA 0) H) (hru : va_at D vwCl (z + pos (0, 6), ruE z cA 0) H)
    (kk : ∀ (H1 : Heap) (locs1 : List Loc), CB D z (pos (0, 0) + 86) 0 Sce_3 (fnL (adZ z) cA dce_3) H1 → H1.size = z + (pos (0, 0) + 86) → va_S (fun q => z + pos (0, 0) ≤ q) s.heap H1 locs1 → va_at D vwCl (z + pos (0, 4), imE z cA 0) H1 → va_at D vwCl (z + pos (0, 6), ruE z cA 0) H1 → W p l e R s m args below meth c H1 locs1 85 2721 Q (F0 m 123 ls [])) : W p l e R s m args below meth c H locs 63 1007 Q (F0 m 79 ls []) := by
  have hx := hC.1.1
  have hb := hC.1.2.1
  have hown := hC.1.2.2.2.1
  have hts := hC.2.1
  have ho : cls 0 = 11 := rfl
  -- field 9, from 79
  refine lv_aload_n (k := 0) (i := 0) hx hb (dec_at okI_ce 38 rfl) rfl (lv_at hl 0 rfl) ?_
  have hpo := ps_11_22_0
  refine st_new hC hS hz (idx := 51) (o' := 22) (ci := 3) (N := 7) (C := RX3) (T := TX3) rfl rfl hpo (gk_2 45 rfl rfl) (gk_2 46 rfl rfl) (gk_1 7 rfl rfl) (Nat.le_trans (Nat.le_of_ble_eq_true rfl) hR.1) (Nat.le_trans (Nat.le_of_ble_eq_true rfl) hR.2.1) (dec_at okI_ce 39 rfl) (fun H1 he1 hz1 o1 hS1 => ?_)
  refine lv_dup hx hb (dec_at okI_ce 40 rfl) rfl ?_
  refine st_callN hC hS1 hex hz1 (idx := 53) (o' := 22) (As := fun _ => []) (rest := [.ref (z + pos (22, 0)), .ref (z + pos (0, 0))]) (np := 0) hpo (fun q h => by omega) he1 c_rr (gk_2 49 rfl rfl) (gk_1 7 rfl rfl) (List.mem_of_getElem? (i := 3) rfl) (gk_2 48 rfl rfl) rfl ⟨by decide, by decide, by decide +kernel⟩ rfl ⟨(Nat.le_trans (Nat.le_of_ble_eq_true rfl) hR.2.2.1), (Nat.le_trans (Nat.le_of_ble_eq_true rfl) hR.2.2.2)⟩ hl.1 (Nat.le_of_ble_eq_true rfl) (Nat.le_trans (Nat.le_of_ble_eq_true rfl) hR.1) (Nat.le_trans (Nat.le_of_ble_eq_true rfl) hR.2.1) (dec_at okI_ce 41 rfl) (fun H2 locs2 hds hz2 hF hS2 => ?_)
  have hB1 : CB D z (pos (0, 0) + 73) 0 Sce_2 (fnL (adZ z) cA (ds_3 (22) ++ dce_2)) H2 := (hB.grow (pos (0, 0) + 73) (by omega) (fun q hq => (hF q hq).trans (o1 q hq))).addL hds (fun d hd => by have := pd_3 (22) (by decide) rfl d hd; omega)
  refine st_put hC hS2 hB1 (idx := 54) (N := 14) (k := 9) (T := TX11) ho rfl (by decide) (gk_2 214 rfl rfl) (fv_obj (o' := 22) (by rw [ho]; rfl) (by rw [ho]; rfl)) (tyX11_ok 9 (by decide)) rfl rfl (dec_at okI_ce 42 rfl) (fun H3 locs3 hB2 z3 f3 hS3 => ?_)
  have hz2 : H3.size = z + (pos (0, 0) + 73) := by omega
  have him1 : va_at D vwCl (z + pos (0, 4), imE z cA 0) H3 := ((him.kept (o1 _ (by have := ps_11_0_4; show z + pos (0, 4) < z + (pos (0, 0) + 64); omega))).kept (hF _ (by have := ps_11_0_4; show z + pos (0, 4) < z + (pos (0, 0) + 64); omega))).kept (f3 _ (by have := ps_11_0_4; show ¬ z + pos (0, 4) = z + pos (0, 0); omega))
  clear him
  have him := him1
  clear him1
  have hru1 : va_at D vwCl (z + pos (0, 6), ruE z cA 0) H3 := ((hru.kept (o1 _ (by have := ps_11_0_6; show z + pos (0, 6) < z + (pos (0, 0) + 64); omega))).kept (hF _ (by have := ps_11_0_6; show z + pos (0, 6) < z + (pos (0, 0) + 64); omega))).kept (f3 _ (by have := ps_11_0_6; show ¬ z + pos (0, 6) = z + pos (0, 0); omega))
  clear hru
  have hru := hru1
  clear hru1
  clear hB hz hS
  have hB := hB2
  have hz := hz2
  have hS := hS3
  clear hB1 hB2 hz1 hz2 hS1 hS2 hS3 he1 o1 hF hds z3 hpo
  -- field 10, from 90
  refine lv_aload_n (k := 0) (i := 0) hx hb (dec_at okI_ce 43 rfl) rfl (lv_at hl 0 rfl) ?_
  have hpo := ps_11_24_0
  refine st_new hC hS hz (idx := 58) (o' := 24) (ci := 0) (N := 3) (C := RX0) (T := TX0) rfl rfl hpo (gk_2 105 rfl rfl) (gk_2 106 rfl rfl) (gk_1 9 rfl rfl) (Nat.le_trans (Nat.le_of_ble_eq_true rfl) hR.1) (Nat.le_trans (Nat.le_of_ble_eq_true rfl) hR.2.1) (dec_at okI_ce 44 rfl) (fun H1 he1 hz1 o1 hS1 => ?_)
  refine lv_dup hx hb (dec_at okI_ce 45 rfl) rfl ?_
  refine st_callN hC hS1 hex hz1 (idx := 60) (o' := 24) (As := fun _ => []) (rest := [.ref (z + pos (24, 0)), .ref (z + pos (0, 0))]) (np := 0) hpo (fun q h => by omega) he1 c_fm (gk_2 109 rfl rfl) (gk_1 9 rfl rfl) (List.mem_of_getElem? (i := 4) rfl) (gk_2 108 rfl rfl) rfl ⟨by decide, by decide, by decide +kernel⟩ rfl ⟨(Nat.le_trans (Nat.le_of_ble_eq_true rfl) hR.2.2.1), (Nat.le_trans (Nat.le_of_ble_eq_true rfl) hR.2.2.2)⟩ hl.1 (Nat.le_of_ble_eq_true rfl) (Nat.le_trans (Nat.le_of_ble_eq_true rfl) hR.1) (Nat.le_trans (Nat.le_of_ble_eq_true rfl) hR.2.1) (dec_at okI_ce 46 rfl) (fun H2 locs2 hds hz2 hF hS2 => ?_)
  have hB1 : CB D z (pos (0, 0) + 77) 0 (addS Sce_2 9) (fnL (adZ z) cA (ds_0 (24) ++ (ds_3 (22) ++ dce_2))) H2 := (hB.grow (pos (0, 0) + 77) (by omega) (fun q hq => (hF q hq).trans (o1 q hq))).addL hds (fun d hd => by have := pd_0 (24) (by decide) rfl d hd; omega)
  refine st_put hC hS2 hB1 (idx := 61) (N := 14) (k := 10) (T := TX11) ho rfl (by decide) (gk_2 215 rfl rfl) (fv_obj (o' := 24) (by rw [ho]; rfl) (by rw [ho]; rfl)) (tyX11_ok 10 (by decide)) rfl rfl (dec_at okI_ce 47 rfl) (fun H3 locs3 hB2 z3 f3 hS3 => ?_)
  have hz2 : H3.size = z + (pos (0, 0) + 77) := by omega
  have him1 : va_at D vwCl (z + pos (0, 4), imE z cA 0) H3 := ((him.kept (o1 _ (by have := ps_11_0_4; show z + pos (0, 4) < z + (pos (0, 0) + 73); omega))).kept (hF _ (by have := ps_11_0_4; show z + pos (0, 4) < z + (pos (0, 0) + 73); omega))).kept (f3 _ (by have := ps_11_0_4; show ¬ z + pos (0, 4) = z + pos (0, 0); omega))
  clear him
  have him := him1
  clear him1
  have hru1 : va_at D vwCl (z + pos (0, 6), ruE z cA 0) H3 := ((hru.kept (o1 _ (by have := ps_11_0_6; show z + pos (0, 6) < z + (pos (0, 0) + 73); omega))).kept (hF _ (by have := ps_11_0_6; show z + pos (0, 6) < z + (pos (0, 0) + 73); omega))).kept (f3 _ (by have := ps_11_0_6; show ¬ z + pos (0, 6) = z + pos (0, 0); omega))
  clear hru
  have hru := hru1
  clear hru1
  clear hB hz hS
  have hB := hB2
  have hz := hz2
  have hS := hS3
  clear hB1 hB2 hz1 hz2 hS1 hS2 hS3 he1 o1 hF hds z3 hpo
  -- field 11, from 101
  refine lv_aload_n (k := 0) (i := 0) hx hb (dec_at okI_ce 48 rfl) rfl (lv_at hl 0 rfl) ?_
  have hpo := ps_11_25_0
  refine st_new hC hS hz (idx := 65) (o' := 25) (ci := 1) (N := 5) (C := RX1) (T := TX1) rfl rfl hpo (gk_2 121 rfl rfl) (gk_2 122 rfl rfl) (gk_1 10 rfl rfl) (Nat.le_trans (Nat.le_of_ble_eq_true rfl) hR.1) (Nat.le_trans (Nat.le_of_ble_eq_true rfl) hR.2.1) (dec_at okI_ce 49 rfl) (fun H1 he1 hz1 o1 hS1 => ?_)
  refine lv_dup hx hb (dec_at okI_ce 50 rfl) rfl ?_
  refine st_callN hC hS1 hex hz1 (idx := 67) (o' := 25) (As := fun _ => []) (rest := [.ref (z + pos (25, 0)), .ref (z + pos (0, 0))]) (np := 0) hpo (fun q h => by omega) he1 c_kp (gk_2 125 rfl rfl) (gk_1 10 rfl rfl) (List.mem_of_getElem? (i := 5) rfl) (gk_2 124 rfl rfl) rfl ⟨by decide, by decide, by decide +kernel⟩ rfl ⟨(Nat.le_trans (Nat.le_of_ble_eq_true rfl) hR.2.2.1), (Nat.le_trans (Nat.le_of_ble_eq_true rfl) hR.2.2.2)⟩ hl.1 (Nat.le_of_ble_eq_true rfl) (Nat.le_trans (Nat.le_of_ble_eq_true rfl) hR.1) (Nat.le_trans (Nat.le_of_ble_eq_true rfl) hR.2.1) (dec_at okI_ce 51 rfl) (fun H2 locs2 hds hz2 hF hS2 => ?_)
  have hB1 : CB D z (pos (0, 0) + 80) 0 (addS (addS Sce_2 9) 10) (fnL (adZ z) cA (ds_1 (25) ++ (ds_0 (24) ++ (ds_3 (22) ++ dce_2)))) H2 := (hB.grow (pos (0, 0) + 80) (by omega) (fun q hq => (hF q hq).trans (o1 q hq))).addL hds (fun d hd => by have := pd_1 (25) (by decide) rfl d hd; omega)
  refine st_put hC hS2 hB1 (idx := 68) (N := 14) (k := 11) (T := TX11) ho rfl (by decide) (gk_2 216 rfl rfl) (fv_obj (o' := 25) (by rw [ho]; rfl) (by rw [ho]; rfl)) (tyX11_ok 11 (by decide)) rfl rfl (dec_at okI_ce 52 rfl) (fun H3 locs3 hB2 z3 f3 hS3 => ?_)
  have hz2 : H3.size = z + (pos (0, 0) + 80) := by omega
  have him1 : va_at D vwCl (z + pos (0, 4), imE z cA 0) H3 := ((him.kept (o1 _ (by have := ps_11_0_4; show z + pos (0, 4) < z + (pos (0, 0) + 77); omega))).kept (hF _ (by have := ps_11_0_4; show z + pos (0, 4) < z + (pos (0, 0) + 77); omega))).kept (f3 _ (by have := ps_11_0_4; show ¬ z + pos (0, 4) = z + pos (0, 0); omega))
  clear him
  have him := him1
  clear him1
  have hru1 : va_at D vwCl (z + pos (0, 6), ruE z cA 0) H3 := ((hru.kept (o1 _ (by have := ps_11_0_6; show z + pos (0, 6) < z + (pos (0, 0) + 77); omega))).kept (hF _ (by have := ps_11_0_6; show z + pos (0, 6) < z + (pos (0, 0) + 77); omega))).kept (f3 _ (by have := ps_11_0_6; show ¬ z + pos (0, 6) = z + pos (0, 0); omega))
  clear hru
  have hru := hru1
  clear hru1
  clear hB hz hS
  have hB := hB2
  have hz := hz2
  have hS := hS3
  clear hB1 hB2 hz1 hz2 hS1 hS2 hS3 he1 o1 hF hds z3 hpo
  -- field 12, from 112
  refine lv_aload_n (k := 0) (i := 0) hx hb (dec_at okI_ce 53 rfl) rfl (lv_at hl 0 rfl) ?_
  have hpo := ps_11_26_0
  refine st_new hC hS hz (idx := 72) (o' := 26) (ci := 10) (N := 9) (C := RX10) (T := TX10) rfl rfl hpo (gk_2 146 rfl rfl) (gk_2 147 rfl rfl) (gk_1 11 rfl rfl) (Nat.le_trans (Nat.le_of_ble_eq_true rfl) hR.1) (Nat.le_trans (Nat.le_of_ble_eq_true rfl) hR.2.1) (dec_at okI_ce 54 rfl) (fun H1 he1 hz1 o1 hS1 => ?_)
  refine lv_dup hx hb (dec_at okI_ce 55 rfl) rfl ?_
  refine st_callN hC hS1 hex hz1 (idx := 74) (o' := 26) (As := fun _ => []) (rest := [.ref (z + pos (26, 0)), .ref (z + pos (0, 0))]) (np := 0) hpo (fun q h => by omega) he1 c_wp (gk_2 150 rfl rfl) (gk_1 11 rfl rfl) (List.mem_of_getElem? (i := 6) rfl) (gk_2 149 rfl rfl) rfl ⟨by decide, by decide, by decide +kernel⟩ rfl ⟨(Nat.le_trans (Nat.le_of_ble_eq_true rfl) hR.2.2.1), (Nat.le_trans (Nat.le_of_ble_eq_true rfl) hR.2.2.2)⟩ hl.1 (Nat.le_of_ble_eq_true rfl) (Nat.le_trans (Nat.le_of_ble_eq_true rfl) hR.1) (Nat.le_trans (Nat.le_of_ble_eq_true rfl) hR.2.1) (dec_at okI_ce 56 rfl) (fun H2 locs2 hds hz2 hF hS2 => ?_)
  have hB1 : CB D z (pos (0, 0) + 86) 0 (addS (addS (addS Sce_2 9) 10) 11) (fnL (adZ z) cA (ds_10 (26) ++ (ds_1 (25) ++ (ds_0 (24) ++ (ds_3 (22) ++ dce_2))))) H2 := (hB.grow (pos (0, 0) + 86) (by omega) (fun q hq => (hF q hq).trans (o1 q hq))).addL hds (fun d hd => by have := pd_10 (26) (by decide) rfl d hd; omega)
  refine st_put hC hS2 hB1 (idx := 75) (N := 14) (k := 12) (T := TX11) ho rfl (by decide) (gk_2 217 rfl rfl) (fv_obj (o' := 26) (by rw [ho]; rfl) (by rw [ho]; rfl)) (tyX11_ok 12 (by decide)) rfl rfl (dec_at okI_ce 57 rfl) (fun H3 locs3 hB2 z3 f3 hS3 => ?_)
  have hz2 : H3.size = z + (pos (0, 0) + 86) := by omega
  have him1 : va_at D vwCl (z + pos (0, 4), imE z cA 0) H3 := ((him.kept (o1 _ (by have := ps_11_0_4; show z + pos (0, 4) < z + (pos (0, 0) + 80); omega))).kept (hF _ (by have := ps_11_0_4; show z + pos (0, 4) < z + (pos (0, 0) + 80); omega))).kept (f3 _ (by have := ps_11_0_4; show ¬ z + pos (0, 4) = z + pos (0, 0); omega))
  clear him
  have him := him1
  clear him1
  have hru1 : va_at D vwCl (z + pos (0, 6), ruE z cA 0) H3 := ((hru.kept (o1 _ (by have := ps_11_0_6; show z + pos (0, 6) < z + (pos (0, 0) + 80); omega))).kept (hF _ (by have := ps_11_0_6; show z + pos (0, 6) < z + (pos (0, 0) + 80); omega))).kept (f3 _ (by have := ps_11_0_6; show ¬ z + pos (0, 6) = z + pos (0, 0); omega))
  clear hru
  have hru := hru1
  clear hru1
  clear hB hz hS
  have hB := hB2
  have hz := hz2
  have hS := hS3
  clear hB1 hB2 hz1 hz2 hS1 hS2 hS3 he1 o1 hF hds z3 hpo
  exact kk _ _ hB hz hS him hru
def Sce_4 : Nat → Bool := (addS Sce_3 13)
def dce_4 : List (Nat × Nat) := (ds_4 (27) ++ dce_3)
set_option maxHeartbeats 4000000 in
set_option maxRecDepth 100000 in
theorem c_ce_4 {p : Program} {l : Launch} {e : Env} {R : Room} {s : State} {m : MethodId} {args : Array Value} {below : List Frame} {meth : Method} {c : Code} {H : Heap} {locs : List Loc} {Q : State → Prop} {ls : Array Slot} {D : va_G} {cA : Nat → ClassId} {z : Nat} (hC : CIc p s m args meth c cX11_init 2 D cA RX11) (hex : exN s) (hR : 217 ≤ R.cells ∧ 9010 ≤ R.slots ∧ 3 ≤ R.frames ∧ 120 ≤ R.locals) (hS : va_S (fun q => z + pos (0, 0) ≤ q) s.heap H locs) (hB : CB D z (pos (0, 0) + 86) 0 Sce_3 (fnL (adZ z) cA dce_3) H) (hz : H.size = z + (pos (0, 0) + 86)) (hl : lv_has ls 2 [(0, .ref (z + pos (0, 0)))]) (him : va_at D vwCl (z + pos (0, 4), imE z cA 0) H) (hru : va_at D vwCl (z + pos (0, 6), ruE z cA 0) H)
    (kk : ∀ (H1 : Heap) (locs1 : List Loc), CB D z (pos (0, 0) + 88) 0 Sce_4 (fnL (adZ z) cA dce_4) H1 → H1.size = z + (pos (0, 0) + 88) → va_S (fun q => z + pos (0, 0) ≤ q) s.heap H1 locs1 → va_at D vwCl (z + pos (0, 4), imE z cA 0) H1 → va_at D vwCl (z + pos (0, 6), ruE z cA 0) H1 → W p l e R s m args below meth c H1 locs1 87 5130 Q (F0 m 134 ls [])) : W p l e R s m args below meth c H locs 85 2721 Q (F0 m 123 ls []) := by
  have hx := hC.1.1
  have hb := hC.1.2.1
  have hown := hC.1.2.2.2.1
  have hts := hC.2.1
  have ho : cls 0 = 11 := rfl
  -- field 13, from 123
  refine lv_aload_n (k := 0) (i := 0) hx hb (dec_at okI_ce 58 rfl) rfl (lv_at hl 0 rfl) ?_
  have hpo := ps_11_27_0
  refine st_new hC hS hz (idx := 79) (o' := 27) (ci := 4) (N := 4) (C := RX4) (T := TX4) rfl rfl hpo (gk_2 183 rfl rfl) (gk_2 184 rfl rfl) (gk_1 12 rfl rfl) (Nat.le_trans (Nat.le_of_ble_eq_true rfl) hR.1) (Nat.le_trans (Nat.le_of_ble_eq_true rfl) hR.2.1) (dec_at okI_ce 59 rfl) (fun H1 he1 hz1 o1 hS1 => ?_)
  refine lv_dup hx hb (dec_at okI_ce 60 rfl) rfl ?_
  refine st_callN hC hS1 hex hz1 (idx := 81) (o' := 27) (As := fun _ => []) (rest := [.ref (z + pos (27, 0)), .ref (z + pos (0, 0))]) (np := 0) hpo (fun q h => by omega) he1 c_sp (gk_2 187 rfl rfl) (gk_1 12 rfl rfl) (List.mem_of_getElem? (i := 7) rfl) (gk_2 186 rfl rfl) rfl ⟨by decide, by decide, by decide +kernel⟩ rfl ⟨(Nat.le_trans (Nat.le_of_ble_eq_true rfl) hR.2.2.1), (Nat.le_trans (Nat.le_of_ble_eq_true rfl) hR.2.2.2)⟩ hl.1 (Nat.le_of_ble_eq_true rfl) (Nat.le_trans (Nat.le_of_ble_eq_true rfl) hR.1) (Nat.le_trans (Nat.le_of_ble_eq_true rfl) hR.2.1) (dec_at okI_ce 61 rfl) (fun H2 locs2 hds hz2 hF hS2 => ?_)
  have hB1 : CB D z (pos (0, 0) + 88) 0 Sce_3 (fnL (adZ z) cA (ds_4 (27) ++ dce_3)) H2 := (hB.grow (pos (0, 0) + 88) (by omega) (fun q hq => (hF q hq).trans (o1 q hq))).addL hds (fun d hd => by have := pd_4 (27) (by decide) rfl d hd; omega)
  refine st_put hC hS2 hB1 (idx := 82) (N := 14) (k := 13) (T := TX11) ho rfl (by decide) (gk_2 218 rfl rfl) (fv_obj (o' := 27) (by rw [ho]; rfl) (by rw [ho]; rfl)) (tyX11_ok 13 (by decide)) rfl rfl (dec_at okI_ce 62 rfl) (fun H3 locs3 hB2 z3 f3 hS3 => ?_)
  have hz2 : H3.size = z + (pos (0, 0) + 88) := by omega
  have him1 : va_at D vwCl (z + pos (0, 4), imE z cA 0) H3 := ((him.kept (o1 _ (by have := ps_11_0_4; show z + pos (0, 4) < z + (pos (0, 0) + 86); omega))).kept (hF _ (by have := ps_11_0_4; show z + pos (0, 4) < z + (pos (0, 0) + 86); omega))).kept (f3 _ (by have := ps_11_0_4; show ¬ z + pos (0, 4) = z + pos (0, 0); omega))
  clear him
  have him := him1
  clear him1
  have hru1 : va_at D vwCl (z + pos (0, 6), ruE z cA 0) H3 := ((hru.kept (o1 _ (by have := ps_11_0_6; show z + pos (0, 6) < z + (pos (0, 0) + 86); omega))).kept (hF _ (by have := ps_11_0_6; show z + pos (0, 6) < z + (pos (0, 0) + 86); omega))).kept (f3 _ (by have := ps_11_0_6; show ¬ z + pos (0, 6) = z + pos (0, 0); omega))
  clear hru
  have hru := hru1
  clear hru1
  clear hB hz hS
  have hB := hB2
  have hz := hz2
  have hS := hS3
  clear hB1 hB2 hz1 hz2 hS1 hS2 hS3 he1 o1 hF hds z3 hpo
  exact kk _ _ hB hz hS him hru
set_option maxHeartbeats 4000000 in
set_option maxRecDepth 100000 in
theorem c_ce_im0 {p : Program} {l : Launch} {e : Env} {R : Room} {s : State} {m : MethodId} {args : Array Value} {below : List Frame} {meth : Method} {c : Code} {H : Heap} {locs : List Loc} {Q : State → Prop} {ls : Array Slot} {D : va_G} {cA : Nat → ClassId} {z : Nat} {ds : List (Nat × Nat)} (hC : CIc p s m args meth c cX11_init 2 D cA RX11) (hex : exN s) (hR : 217 ≤ R.cells ∧ 9010 ≤ R.slots ∧ 3 ≤ R.frames ∧ 120 ≤ R.locals) (hS : va_S (fun q => z + pos (0, 0) ≤ q) s.heap H locs) (hB : CB D z (pos (0, 0) + 88) 0 Sce_4 (fnL (adZ z) cA ds) H) (hno : ∀ d ∈ ds, ¬ pos d = pos (0, 4) ∧ ¬ pos d = pos (0, 6)) (hz : H.size = z + (pos (0, 0) + 88)) (hl : lv_has ls 2 [(1, .int 0), (0, .ref (z + pos (0, 0)))]) (him : va_at D vwCl (z + pos (0, 4), imE z cA 0) H) (hru : va_at D vwCl (z + pos (0, 6), ruE z cA 0) H)
    (kk : ∀ (H1 : Heap) (locs1 : List Loc) (ls1 : Array Slot), CB D z (pos (0, 0) + 110) 0 Sce_4 (fnL (adZ z) cA (ds_7 8 ++ ds)) H1 → (∀ d ∈ ds_7 8 ++ ds, ¬ pos d = pos (0, 4) ∧ ¬ pos d = pos (0, 6)) → H1.size = z + (pos (0, 0) + 110) → va_S (fun q => z + pos (0, 0) ≤ q) s.heap H1 locs1 → lv_has ls1 2 [(1, .int 1), (0, .ref (z + pos (0, 0)))] → va_at D vwCl (z + pos (0, 4), imE z cA 1) H1 → va_at D vwCl (z + pos (0, 6), ruE z cA 0) H1 → W p l e R s m args below meth c H1 locs1 109 5356 Q (F0 m 136 ls1 [])) : W p l e R s m args below meth c H locs 87 5130 Q (F0 m 136 ls []) := by
  have hx := hC.1.1
  have hb := hC.1.2.1
  have hown := hC.1.2.2.2.1
  have hts := hC.2.1
  have p4 := ps_11_0_4
  have p6 := ps_11_0_6
  have hpo := ps_11_8_0
  refine lv_iload_n (k := 1) (i := 1) hx hb (dec_at okI_ce 65 rfl) rfl (lv_at hl 0 rfl) ?_
  refine lv_iconst (n := 4) (v := 4) hx hb (dec_at okI_ce 66 rfl) (by decide +kernel) ?_
  refine lv_icmp_ge (tgt := 160) hx hb (dec_at okI_ce 67 rfl) (by decide) (fun w => absurd w (by decide)) (fun _ => ?_)
  refine lv_aload_n (k := 0) (i := 0) hx hb (dec_at okI_ce 68 rfl) rfl (lv_at hl 1 rfl) ?_
  refine st_get hC hB (idx := 26) (N := 14) (j := 3) (T := TX11) (v := .ref (z + pos (0, 4))) rfl rfl (by decide) rfl (gk_2 208 rfl rfl) (fieldV_arr (adZ z) s0 rfl) (dec_at okI_ce 69 rfl) ?_
  refine lv_iload_n (k := 1) (i := 1) hx hb (dec_at okI_ce 70 rfl) rfl (lv_at hl 0 rfl) ?_
  refine st_new hC hS hz (idx := 16) (o' := 8) (ci := 7) (N := 14) (C := RX7) (T := TX7) rfl rfl hpo (gk_1 48 rfl rfl) (gk_1 49 rfl rfl) (gk_1 3 rfl rfl) (Nat.le_trans (Nat.le_of_ble_eq_true rfl) hR.1) (Nat.le_trans (Nat.le_of_ble_eq_true rfl) hR.2.1) (dec_at okI_ce 71 rfl) (fun H1 he1 hz1 o1 hS1 => ?_)
  refine lv_dup hx hb (dec_at okI_ce 72 rfl) rfl ?_
  refine st_callN hC hS1 hex hz1 (idx := 18) (o' := 8) (As := fun _ => []) (rest := [.ref (z + pos (8, 0)), .int 0, .ref (z + pos (0, 4))]) (np := 0) hpo (fun q h => by omega) he1 (c_sd (o := 8) rfl) (gk_1 52 rfl rfl) (gk_1 3 rfl rfl) (List.mem_of_getElem? (i := 1) rfl) (gk_1 51 rfl rfl) rfl ⟨by decide, by decide, by decide +kernel⟩ rfl ⟨(Nat.le_trans (Nat.le_of_ble_eq_true rfl) hR.2.2.1), (Nat.le_trans (Nat.le_of_ble_eq_true rfl) hR.2.2.2)⟩ hl.1 (Nat.le_of_ble_eq_true rfl) (Nat.le_trans (Nat.le_of_ble_eq_true rfl) hR.1) (Nat.le_trans (Nat.le_of_ble_eq_true rfl) hR.2.1) (dec_at okI_ce 73 rfl) (fun H2 locs2 hds hz2 hF hS2 => ?_)
  have hB1 : CB D z (pos (0, 0) + 110) 0 Sce_4 (fnL (adZ z) cA (ds_7 8 ++ ds)) H2 := (hB.grow (pos (0, 0) + 110) (by omega) (fun q hq => (hF q hq).trans (o1 q hq))).addL hds (fun d hd => by have := pd_7 8 (by decide) rfl d hd; omega)
  have him1 := (him.kept (o1 _ (by show z + pos (0, 4) < _; omega))).kept (hF _ (by show z + pos (0, 4) < _; omega))
  have hru1 := (hru.kept (o1 _ (by show z + pos (0, 6) < _; omega))).kept (hF _ (by show z + pos (0, 6) < _; omega))
  refine i_aast hC hS2 (a := z + pos (0, 4)) (v := z + pos (8, 0)) (t0 := 4) (ci := 7) (i' := 0) (r := (RX7, TX7, 14)) (by show z + pos (0, 0) ≤ z + pos (0, 4); omega) him1 rfl (hds (8, 0) List.mem_cons_self) rfl (by unfold vp_in; decide +kernel) (by decide +kernel) (dec_at okI_ce 74 rfl) (fun H3 locs3 a1 z3 f3 hS3 => ?_)
  have hno1 : ∀ d ∈ ds_7 8 ++ ds, ¬ pos d = pos (0, 4) ∧ ¬ pos d = pos (0, 6) := fun d hd => (List.mem_append.mp hd).elim (fun w => by have := pd_7 8 (by decide) rfl d w; omega) (hno d)
  have hB3 := hB1.other (a' := pos (0, 4)) (by omega) (fun d hd => (hno1 d hd).1) f3
  refine lv_iinc (v := 1) (lv' := [(1, .int 1), (0, .ref (z + pos (0, 0)))]) hx hb (dec_at okI_ce 75 rfl) hl (k := 0) rfl (by decide +kernel) (by decide) rfl (fun ls1 hl1 => ?_)
  refine lv_goto (tgt := 136) hx hb (dec_at okI_ce 76 rfl) (by decide) ?_
  exact kk H3 locs3 ls1 hB3 hno1 (by omega) hS3 hl1 (imE_up a1) (hru1.kept (f3 _ (by show ¬ z + pos (0, 6) = z + pos (0, 4); omega)))
set_option maxHeartbeats 4000000 in
set_option maxRecDepth 100000 in
theorem c_ce_im1 {p : Program} {l : Launch} {e : Env} {R : Room} {s : State} {m : MethodId} {args : Array Value} {below : List Frame} {meth : Method} {c : Code} {H : Heap} {locs : List Loc} {Q : State → Prop} {ls : Array Slot} {D : va_G} {cA : Nat → ClassId} {z : Nat} {ds : List (Nat × Nat)} (hC : CIc p s m args meth c cX11_init 2 D cA RX11) (hex : exN s) (hR : 217 ≤ R.cells ∧ 9010 ≤ R.slots ∧ 3 ≤ R.frames ∧ 120 ≤ R.locals) (hS : va_S (fun q => z + pos (0, 0) ≤ q) s.heap H locs) (hB : CB D z (pos (0, 0) + 110) 0 Sce_4 (fnL (adZ z) cA ds) H) (hno : ∀ d ∈ ds, ¬ pos d = pos (0, 4) ∧ ¬ pos d = pos (0, 6)) (hz : H.size = z + (pos (0, 0) + 110)) (hl : lv_has ls 2 [(1, .int 1), (0, .ref (z + pos (0, 0)))]) (him : va_at D vwCl (z + pos (0, 4), imE z cA 1) H) (hru : va_at D vwCl (z + pos (0, 6), ruE z cA 0) H)
    (kk : ∀ (H1 : Heap) (locs1 : List Loc) (ls1 : Array Slot), CB D z (pos (0, 0) + 132) 0 Sce_4 (fnL (adZ z) cA (ds_7 11 ++ ds)) H1 → (∀ d ∈ ds_7 11 ++ ds, ¬ pos d = pos (0, 4) ∧ ¬ pos d = pos (0, 6)) → H1.size = z + (pos (0, 0) + 132) → va_S (fun q => z + pos (0, 0) ≤ q) s.heap H1 locs1 → lv_has ls1 2 [(1, .int 2), (0, .ref (z + pos (0, 0)))] → va_at D vwCl (z + pos (0, 4), imE z cA 2) H1 → va_at D vwCl (z + pos (0, 6), ruE z cA 0) H1 → W p l e R s m args below meth c H1 locs1 131 5582 Q (F0 m 136 ls1 [])) : W p l e R s m args below meth c H locs 109 5356 Q (F0 m 136 ls []) := by
  have hx := hC.1.1
  have hb := hC.1.2.1
  have hown := hC.1.2.2.2.1
  have hts := hC.2.1
  have p4 := ps_11_0_4
  have p6 := ps_11_0_6
  have hpo := ps_11_11_0
  refine lv_iload_n (k := 1) (i := 1) hx hb (dec_at okI_ce 65 rfl) rfl (lv_at hl 0 rfl) ?_
  refine lv_iconst (n := 4) (v := 4) hx hb (dec_at okI_ce 66 rfl) (by decide +kernel) ?_
  refine lv_icmp_ge (tgt := 160) hx hb (dec_at okI_ce 67 rfl) (by decide) (fun w => absurd w (by decide)) (fun _ => ?_)
  refine lv_aload_n (k := 0) (i := 0) hx hb (dec_at okI_ce 68 rfl) rfl (lv_at hl 1 rfl) ?_
  refine st_get hC hB (idx := 26) (N := 14) (j := 3) (T := TX11) (v := .ref (z + pos (0, 4))) rfl rfl (by decide) rfl (gk_2 208 rfl rfl) (fieldV_arr (adZ z) s0 rfl) (dec_at okI_ce 69 rfl) ?_
  refine lv_iload_n (k := 1) (i := 1) hx hb (dec_at okI_ce 70 rfl) rfl (lv_at hl 0 rfl) ?_
  refine st_new hC hS hz (idx := 16) (o' := 11) (ci := 7) (N := 14) (C := RX7) (T := TX7) rfl rfl hpo (gk_1 48 rfl rfl) (gk_1 49 rfl rfl) (gk_1 3 rfl rfl) (Nat.le_trans (Nat.le_of_ble_eq_true rfl) hR.1) (Nat.le_trans (Nat.le_of_ble_eq_true rfl) hR.2.1) (dec_at okI_ce 71 rfl) (fun H1 he1 hz1 o1 hS1 => ?_)
  refine lv_dup hx hb (dec_at okI_ce 72 rfl) rfl ?_
  refine st_callN hC hS1 hex hz1 (idx := 18) (o' := 11) (As := fun _ => []) (rest := [.ref (z + pos (11, 0)), .int 1, .ref (z + pos (0, 4))]) (np := 0) hpo (fun q h => by omega) he1 (c_sd (o := 11) rfl) (gk_1 52 rfl rfl) (gk_1 3 rfl rfl) (List.mem_of_getElem? (i := 1) rfl) (gk_1 51 rfl rfl) rfl ⟨by decide, by decide, by decide +kernel⟩ rfl ⟨(Nat.le_trans (Nat.le_of_ble_eq_true rfl) hR.2.2.1), (Nat.le_trans (Nat.le_of_ble_eq_true rfl) hR.2.2.2)⟩ hl.1 (Nat.le_of_ble_eq_true rfl) (Nat.le_trans (Nat.le_of_ble_eq_true rfl) hR.1) (Nat.le_trans (Nat.le_of_ble_eq_true rfl) hR.2.1) (dec_at okI_ce 73 rfl) (fun H2 locs2 hds hz2 hF hS2 => ?_)
  have hB1 : CB D z (pos (0, 0) + 132) 0 Sce_4 (fnL (adZ z) cA (ds_7 11 ++ ds)) H2 := (hB.grow (pos (0, 0) + 132) (by omega) (fun q hq => (hF q hq).trans (o1 q hq))).addL hds (fun d hd => by have := pd_7 11 (by decide) rfl d hd; omega)
  have him1 := (him.kept (o1 _ (by show z + pos (0, 4) < _; omega))).kept (hF _ (by show z + pos (0, 4) < _; omega))
  have hru1 := (hru.kept (o1 _ (by show z + pos (0, 6) < _; omega))).kept (hF _ (by show z + pos (0, 6) < _; omega))
  refine i_aast hC hS2 (a := z + pos (0, 4)) (v := z + pos (11, 0)) (t0 := 4) (ci := 7) (i' := 1) (r := (RX7, TX7, 14)) (by show z + pos (0, 0) ≤ z + pos (0, 4); omega) him1 rfl (hds (11, 0) List.mem_cons_self) rfl (by unfold vp_in; decide +kernel) (by decide +kernel) (dec_at okI_ce 74 rfl) (fun H3 locs3 a1 z3 f3 hS3 => ?_)
  have hno1 : ∀ d ∈ ds_7 11 ++ ds, ¬ pos d = pos (0, 4) ∧ ¬ pos d = pos (0, 6) := fun d hd => (List.mem_append.mp hd).elim (fun w => by have := pd_7 11 (by decide) rfl d w; omega) (hno d)
  have hB3 := hB1.other (a' := pos (0, 4)) (by omega) (fun d hd => (hno1 d hd).1) f3
  refine lv_iinc (v := 2) (lv' := [(1, .int 2), (0, .ref (z + pos (0, 0)))]) hx hb (dec_at okI_ce 75 rfl) hl (k := 0) rfl (by decide +kernel) (by decide) rfl (fun ls1 hl1 => ?_)
  refine lv_goto (tgt := 136) hx hb (dec_at okI_ce 76 rfl) (by decide) ?_
  exact kk H3 locs3 ls1 hB3 hno1 (by omega) hS3 hl1 (imE_up a1) (hru1.kept (f3 _ (by show ¬ z + pos (0, 6) = z + pos (0, 4); omega)))
set_option maxHeartbeats 4000000 in
set_option maxRecDepth 100000 in
theorem c_ce_im2 {p : Program} {l : Launch} {e : Env} {R : Room} {s : State} {m : MethodId} {args : Array Value} {below : List Frame} {meth : Method} {c : Code} {H : Heap} {locs : List Loc} {Q : State → Prop} {ls : Array Slot} {D : va_G} {cA : Nat → ClassId} {z : Nat} {ds : List (Nat × Nat)} (hC : CIc p s m args meth c cX11_init 2 D cA RX11) (hex : exN s) (hR : 217 ≤ R.cells ∧ 9010 ≤ R.slots ∧ 3 ≤ R.frames ∧ 120 ≤ R.locals) (hS : va_S (fun q => z + pos (0, 0) ≤ q) s.heap H locs) (hB : CB D z (pos (0, 0) + 132) 0 Sce_4 (fnL (adZ z) cA ds) H) (hno : ∀ d ∈ ds, ¬ pos d = pos (0, 4) ∧ ¬ pos d = pos (0, 6)) (hz : H.size = z + (pos (0, 0) + 132)) (hl : lv_has ls 2 [(1, .int 2), (0, .ref (z + pos (0, 0)))]) (him : va_at D vwCl (z + pos (0, 4), imE z cA 2) H) (hru : va_at D vwCl (z + pos (0, 6), ruE z cA 0) H)
    (kk : ∀ (H1 : Heap) (locs1 : List Loc) (ls1 : Array Slot), CB D z (pos (0, 0) + 154) 0 Sce_4 (fnL (adZ z) cA (ds_7 14 ++ ds)) H1 → (∀ d ∈ ds_7 14 ++ ds, ¬ pos d = pos (0, 4) ∧ ¬ pos d = pos (0, 6)) → H1.size = z + (pos (0, 0) + 154) → va_S (fun q => z + pos (0, 0) ≤ q) s.heap H1 locs1 → lv_has ls1 2 [(1, .int 3), (0, .ref (z + pos (0, 0)))] → va_at D vwCl (z + pos (0, 4), imE z cA 3) H1 → va_at D vwCl (z + pos (0, 6), ruE z cA 0) H1 → W p l e R s m args below meth c H1 locs1 153 5808 Q (F0 m 136 ls1 [])) : W p l e R s m args below meth c H locs 131 5582 Q (F0 m 136 ls []) := by
  have hx := hC.1.1
  have hb := hC.1.2.1
  have hown := hC.1.2.2.2.1
  have hts := hC.2.1
  have p4 := ps_11_0_4
  have p6 := ps_11_0_6
  have hpo := ps_11_14_0
  refine lv_iload_n (k := 1) (i := 1) hx hb (dec_at okI_ce 65 rfl) rfl (lv_at hl 0 rfl) ?_
  refine lv_iconst (n := 4) (v := 4) hx hb (dec_at okI_ce 66 rfl) (by decide +kernel) ?_
  refine lv_icmp_ge (tgt := 160) hx hb (dec_at okI_ce 67 rfl) (by decide) (fun w => absurd w (by decide)) (fun _ => ?_)
  refine lv_aload_n (k := 0) (i := 0) hx hb (dec_at okI_ce 68 rfl) rfl (lv_at hl 1 rfl) ?_
  refine st_get hC hB (idx := 26) (N := 14) (j := 3) (T := TX11) (v := .ref (z + pos (0, 4))) rfl rfl (by decide) rfl (gk_2 208 rfl rfl) (fieldV_arr (adZ z) s0 rfl) (dec_at okI_ce 69 rfl) ?_
  refine lv_iload_n (k := 1) (i := 1) hx hb (dec_at okI_ce 70 rfl) rfl (lv_at hl 0 rfl) ?_
  refine st_new hC hS hz (idx := 16) (o' := 14) (ci := 7) (N := 14) (C := RX7) (T := TX7) rfl rfl hpo (gk_1 48 rfl rfl) (gk_1 49 rfl rfl) (gk_1 3 rfl rfl) (Nat.le_trans (Nat.le_of_ble_eq_true rfl) hR.1) (Nat.le_trans (Nat.le_of_ble_eq_true rfl) hR.2.1) (dec_at okI_ce 71 rfl) (fun H1 he1 hz1 o1 hS1 => ?_)
  refine lv_dup hx hb (dec_at okI_ce 72 rfl) rfl ?_
  refine st_callN hC hS1 hex hz1 (idx := 18) (o' := 14) (As := fun _ => []) (rest := [.ref (z + pos (14, 0)), .int 2, .ref (z + pos (0, 4))]) (np := 0) hpo (fun q h => by omega) he1 (c_sd (o := 14) rfl) (gk_1 52 rfl rfl) (gk_1 3 rfl rfl) (List.mem_of_getElem? (i := 1) rfl) (gk_1 51 rfl rfl) rfl ⟨by decide, by decide, by decide +kernel⟩ rfl ⟨(Nat.le_trans (Nat.le_of_ble_eq_true rfl) hR.2.2.1), (Nat.le_trans (Nat.le_of_ble_eq_true rfl) hR.2.2.2)⟩ hl.1 (Nat.le_of_ble_eq_true rfl) (Nat.le_trans (Nat.le_of_ble_eq_true rfl) hR.1) (Nat.le_trans (Nat.le_of_ble_eq_true rfl) hR.2.1) (dec_at okI_ce 73 rfl) (fun H2 locs2 hds hz2 hF hS2 => ?_)
  have hB1 : CB D z (pos (0, 0) + 154) 0 Sce_4 (fnL (adZ z) cA (ds_7 14 ++ ds)) H2 := (hB.grow (pos (0, 0) + 154) (by omega) (fun q hq => (hF q hq).trans (o1 q hq))).addL hds (fun d hd => by have := pd_7 14 (by decide) rfl d hd; omega)
  have him1 := (him.kept (o1 _ (by show z + pos (0, 4) < _; omega))).kept (hF _ (by show z + pos (0, 4) < _; omega))
  have hru1 := (hru.kept (o1 _ (by show z + pos (0, 6) < _; omega))).kept (hF _ (by show z + pos (0, 6) < _; omega))
  refine i_aast hC hS2 (a := z + pos (0, 4)) (v := z + pos (14, 0)) (t0 := 4) (ci := 7) (i' := 2) (r := (RX7, TX7, 14)) (by show z + pos (0, 0) ≤ z + pos (0, 4); omega) him1 rfl (hds (14, 0) List.mem_cons_self) rfl (by unfold vp_in; decide +kernel) (by decide +kernel) (dec_at okI_ce 74 rfl) (fun H3 locs3 a1 z3 f3 hS3 => ?_)
  have hno1 : ∀ d ∈ ds_7 14 ++ ds, ¬ pos d = pos (0, 4) ∧ ¬ pos d = pos (0, 6) := fun d hd => (List.mem_append.mp hd).elim (fun w => by have := pd_7 14 (by decide) rfl d w; omega) (hno d)
  have hB3 := hB1.other (a' := pos (0, 4)) (by omega) (fun d hd => (hno1 d hd).1) f3
  refine lv_iinc (v := 3) (lv' := [(1, .int 3), (0, .ref (z + pos (0, 0)))]) hx hb (dec_at okI_ce 75 rfl) hl (k := 0) rfl (by decide +kernel) (by decide) rfl (fun ls1 hl1 => ?_)
  refine lv_goto (tgt := 136) hx hb (dec_at okI_ce 76 rfl) (by decide) ?_
  exact kk H3 locs3 ls1 hB3 hno1 (by omega) hS3 hl1 (imE_up a1) (hru1.kept (f3 _ (by show ¬ z + pos (0, 6) = z + pos (0, 4); omega)))
set_option maxHeartbeats 4000000 in
set_option maxRecDepth 100000 in
theorem c_ce_im3 {p : Program} {l : Launch} {e : Env} {R : Room} {s : State} {m : MethodId} {args : Array Value} {below : List Frame} {meth : Method} {c : Code} {H : Heap} {locs : List Loc} {Q : State → Prop} {ls : Array Slot} {D : va_G} {cA : Nat → ClassId} {z : Nat} {ds : List (Nat × Nat)} (hC : CIc p s m args meth c cX11_init 2 D cA RX11) (hex : exN s) (hR : 217 ≤ R.cells ∧ 9010 ≤ R.slots ∧ 3 ≤ R.frames ∧ 120 ≤ R.locals) (hS : va_S (fun q => z + pos (0, 0) ≤ q) s.heap H locs) (hB : CB D z (pos (0, 0) + 154) 0 Sce_4 (fnL (adZ z) cA ds) H) (hno : ∀ d ∈ ds, ¬ pos d = pos (0, 4) ∧ ¬ pos d = pos (0, 6)) (hz : H.size = z + (pos (0, 0) + 154)) (hl : lv_has ls 2 [(1, .int 3), (0, .ref (z + pos (0, 0)))]) (him : va_at D vwCl (z + pos (0, 4), imE z cA 3) H) (hru : va_at D vwCl (z + pos (0, 6), ruE z cA 0) H)
    (kk : ∀ (H1 : Heap) (locs1 : List Loc) (ls1 : Array Slot), CB D z (pos (0, 0) + 176) 0 Sce_4 (fnL (adZ z) cA (ds_7 17 ++ ds)) H1 → (∀ d ∈ ds_7 17 ++ ds, ¬ pos d = pos (0, 4) ∧ ¬ pos d = pos (0, 6)) → H1.size = z + (pos (0, 0) + 176) → va_S (fun q => z + pos (0, 0) ≤ q) s.heap H1 locs1 → lv_has ls1 2 [(1, .int 4), (0, .ref (z + pos (0, 0)))] → va_at D vwCl (z + pos (0, 4), imE z cA 4) H1 → va_at D vwCl (z + pos (0, 6), ruE z cA 0) H1 → W p l e R s m args below meth c H1 locs1 175 6034 Q (F0 m 136 ls1 [])) : W p l e R s m args below meth c H locs 153 5808 Q (F0 m 136 ls []) := by
  have hx := hC.1.1
  have hb := hC.1.2.1
  have hown := hC.1.2.2.2.1
  have hts := hC.2.1
  have p4 := ps_11_0_4
  have p6 := ps_11_0_6
  have hpo := ps_11_17_0
  refine lv_iload_n (k := 1) (i := 1) hx hb (dec_at okI_ce 65 rfl) rfl (lv_at hl 0 rfl) ?_
  refine lv_iconst (n := 4) (v := 4) hx hb (dec_at okI_ce 66 rfl) (by decide +kernel) ?_
  refine lv_icmp_ge (tgt := 160) hx hb (dec_at okI_ce 67 rfl) (by decide) (fun w => absurd w (by decide)) (fun _ => ?_)
  refine lv_aload_n (k := 0) (i := 0) hx hb (dec_at okI_ce 68 rfl) rfl (lv_at hl 1 rfl) ?_
  refine st_get hC hB (idx := 26) (N := 14) (j := 3) (T := TX11) (v := .ref (z + pos (0, 4))) rfl rfl (by decide) rfl (gk_2 208 rfl rfl) (fieldV_arr (adZ z) s0 rfl) (dec_at okI_ce 69 rfl) ?_
  refine lv_iload_n (k := 1) (i := 1) hx hb (dec_at okI_ce 70 rfl) rfl (lv_at hl 0 rfl) ?_
  refine st_new hC hS hz (idx := 16) (o' := 17) (ci := 7) (N := 14) (C := RX7) (T := TX7) rfl rfl hpo (gk_1 48 rfl rfl) (gk_1 49 rfl rfl) (gk_1 3 rfl rfl) (Nat.le_trans (Nat.le_of_ble_eq_true rfl) hR.1) (Nat.le_trans (Nat.le_of_ble_eq_true rfl) hR.2.1) (dec_at okI_ce 71 rfl) (fun H1 he1 hz1 o1 hS1 => ?_)
  refine lv_dup hx hb (dec_at okI_ce 72 rfl) rfl ?_
  refine st_callN hC hS1 hex hz1 (idx := 18) (o' := 17) (As := fun _ => []) (rest := [.ref (z + pos (17, 0)), .int 3, .ref (z + pos (0, 4))]) (np := 0) hpo (fun q h => by omega) he1 (c_sd (o := 17) rfl) (gk_1 52 rfl rfl) (gk_1 3 rfl rfl) (List.mem_of_getElem? (i := 1) rfl) (gk_1 51 rfl rfl) rfl ⟨by decide, by decide, by decide +kernel⟩ rfl ⟨(Nat.le_trans (Nat.le_of_ble_eq_true rfl) hR.2.2.1), (Nat.le_trans (Nat.le_of_ble_eq_true rfl) hR.2.2.2)⟩ hl.1 (Nat.le_of_ble_eq_true rfl) (Nat.le_trans (Nat.le_of_ble_eq_true rfl) hR.1) (Nat.le_trans (Nat.le_of_ble_eq_true rfl) hR.2.1) (dec_at okI_ce 73 rfl) (fun H2 locs2 hds hz2 hF hS2 => ?_)
  have hB1 : CB D z (pos (0, 0) + 176) 0 Sce_4 (fnL (adZ z) cA (ds_7 17 ++ ds)) H2 := (hB.grow (pos (0, 0) + 176) (by omega) (fun q hq => (hF q hq).trans (o1 q hq))).addL hds (fun d hd => by have := pd_7 17 (by decide) rfl d hd; omega)
  have him1 := (him.kept (o1 _ (by show z + pos (0, 4) < _; omega))).kept (hF _ (by show z + pos (0, 4) < _; omega))
  have hru1 := (hru.kept (o1 _ (by show z + pos (0, 6) < _; omega))).kept (hF _ (by show z + pos (0, 6) < _; omega))
  refine i_aast hC hS2 (a := z + pos (0, 4)) (v := z + pos (17, 0)) (t0 := 4) (ci := 7) (i' := 3) (r := (RX7, TX7, 14)) (by show z + pos (0, 0) ≤ z + pos (0, 4); omega) him1 rfl (hds (17, 0) List.mem_cons_self) rfl (by unfold vp_in; decide +kernel) (by decide +kernel) (dec_at okI_ce 74 rfl) (fun H3 locs3 a1 z3 f3 hS3 => ?_)
  have hno1 : ∀ d ∈ ds_7 17 ++ ds, ¬ pos d = pos (0, 4) ∧ ¬ pos d = pos (0, 6) := fun d hd => (List.mem_append.mp hd).elim (fun w => by have := pd_7 17 (by decide) rfl d w; omega) (hno d)
  have hB3 := hB1.other (a' := pos (0, 4)) (by omega) (fun d hd => (hno1 d hd).1) f3
  refine lv_iinc (v := 4) (lv' := [(1, .int 4), (0, .ref (z + pos (0, 0)))]) hx hb (dec_at okI_ce 75 rfl) hl (k := 0) rfl (by decide +kernel) (by decide) rfl (fun ls1 hl1 => ?_)
  refine lv_goto (tgt := 136) hx hb (dec_at okI_ce 76 rfl) (by decide) ?_
  exact kk H3 locs3 ls1 hB3 hno1 (by omega) hS3 hl1 (imE_up a1) (hru1.kept (f3 _ (by show ¬ z + pos (0, 6) = z + pos (0, 4); omega)))
set_option maxHeartbeats 4000000 in
set_option maxRecDepth 100000 in
theorem c_ce_ru0 {p : Program} {l : Launch} {e : Env} {R : Room} {s : State} {m : MethodId} {args : Array Value} {below : List Frame} {meth : Method} {c : Code} {H : Heap} {locs : List Loc} {Q : State → Prop} {ls : Array Slot} {D : va_G} {cA : Nat → ClassId} {z : Nat} {ds : List (Nat × Nat)} (hC : CIc p s m args meth c cX11_init 2 D cA RX11) (hex : exN s) (hR : 217 ≤ R.cells ∧ 9010 ≤ R.slots ∧ 3 ≤ R.frames ∧ 120 ≤ R.locals) (hS : va_S (fun q => z + pos (0, 0) ≤ q) s.heap H locs) (hB : CB D z (pos (0, 0) + 176) 0 Sce_4 (fnL (adZ z) cA ds) H) (hno : ∀ d ∈ ds, ¬ pos d = pos (0, 4) ∧ ¬ pos d = pos (0, 6)) (hz : H.size = z + (pos (0, 0) + 176)) (hl : lv_has ls 2 [(1, .int 0), (0, .ref (z + pos (0, 0)))]) (him : va_at D vwCl (z + pos (0, 4), imE z cA 4) H) (hru : va_at D vwCl (z + pos (0, 6), ruE z cA 0) H)
    (kk : ∀ (H1 : Heap) (locs1 : List Loc) (ls1 : Array Slot), CB D z (pos (0, 0) + 183) 0 Sce_4 (fnL (adZ z) cA (ds_2 28 ++ ds)) H1 → (∀ d ∈ ds_2 28 ++ ds, ¬ pos d = pos (0, 4) ∧ ¬ pos d = pos (0, 6)) → H1.size = z + (pos (0, 0) + 183) → va_S (fun q => z + pos (0, 0) ≤ q) s.heap H1 locs1 → lv_has ls1 2 [(1, .int 1), (0, .ref (z + pos (0, 0)))] → va_at D vwCl (z + pos (0, 4), imE z cA 4) H1 → va_at D vwCl (z + pos (0, 6), ruE z cA 1) H1 → W p l e R s m args below meth c H1 locs1 182 6530 Q (F0 m 162 ls1 [])) : W p l e R s m args below meth c H locs 175 6034 Q (F0 m 162 ls []) := by
  have hx := hC.1.1
  have hb := hC.1.2.1
  have hown := hC.1.2.2.2.1
  have hts := hC.2.1
  have p4 := ps_11_0_4
  have p6 := ps_11_0_6
  have hpo := ps_11_28_0
  refine lv_iload_n (k := 1) (i := 1) hx hb (dec_at okI_ce 79 rfl) rfl (lv_at hl 0 rfl) ?_
  refine lv_bipush (n := 6) (v := 6) hx hb (dec_at okI_ce 80 rfl) (by decide +kernel) ?_
  refine lv_icmp_ge (tgt := 187) hx hb (dec_at okI_ce 81 rfl) (by decide) (fun w => absurd w (by decide)) (fun _ => ?_)
  refine lv_aload_n (k := 0) (i := 0) hx hb (dec_at okI_ce 82 rfl) rfl (lv_at hl 1 rfl) ?_
  refine st_get hC hB (idx := 36) (N := 14) (j := 5) (T := TX11) (v := .ref (z + pos (0, 6))) rfl rfl (by decide) rfl (gk_2 210 rfl rfl) (fieldV_arr (adZ z) s0 rfl) (dec_at okI_ce 83 rfl) ?_
  refine lv_iload_n (k := 1) (i := 1) hx hb (dec_at okI_ce 84 rfl) rfl (lv_at hl 0 rfl) ?_
  refine st_new hC hS hz (idx := 34) (o' := 28) (ci := 2) (N := 8) (C := RX2) (T := TX2) rfl rfl hpo (gk_2 23 rfl rfl) (gk_2 52 rfl rfl) (gk_1 8 rfl rfl) (Nat.le_trans (Nat.le_of_ble_eq_true rfl) hR.1) (Nat.le_trans (Nat.le_of_ble_eq_true rfl) hR.2.1) (dec_at okI_ce 85 rfl) (fun H1 he1 hz1 o1 hS1 => ?_)
  refine lv_dup hx hb (dec_at okI_ce 86 rfl) rfl ?_
  refine st_callN hC hS1 hex hz1 (idx := 86) (o' := 28) (As := fun _ => []) (rest := [.ref (z + pos (28, 0)), .int 0, .ref (z + pos (0, 6))]) (np := 0) hpo (fun q h => by omega) he1 (c_ru (o := 28) rfl) (gk_2 55 rfl rfl) (gk_1 8 rfl rfl) (List.mem_of_getElem? (i := 8) rfl) (gk_2 54 rfl rfl) rfl ⟨by decide, by decide, by decide +kernel⟩ rfl ⟨(Nat.le_trans (Nat.le_of_ble_eq_true rfl) hR.2.2.1), (Nat.le_trans (Nat.le_of_ble_eq_true rfl) hR.2.2.2)⟩ hl.1 (Nat.le_of_ble_eq_true rfl) (Nat.le_trans (Nat.le_of_ble_eq_true rfl) hR.1) (Nat.le_trans (Nat.le_of_ble_eq_true rfl) hR.2.1) (dec_at okI_ce 87 rfl) (fun H2 locs2 hds hz2 hF hS2 => ?_)
  have hB1 : CB D z (pos (0, 0) + 183) 0 Sce_4 (fnL (adZ z) cA (ds_2 28 ++ ds)) H2 := (hB.grow (pos (0, 0) + 183) (by omega) (fun q hq => (hF q hq).trans (o1 q hq))).addL hds (fun d hd => by have := pd_2 28 (by decide) rfl d hd; omega)
  have him1 := (him.kept (o1 _ (by show z + pos (0, 4) < _; omega))).kept (hF _ (by show z + pos (0, 4) < _; omega))
  have hru1 := (hru.kept (o1 _ (by show z + pos (0, 6) < _; omega))).kept (hF _ (by show z + pos (0, 6) < _; omega))
  refine i_aast hC hS2 (a := z + pos (0, 6)) (v := z + pos (28, 0)) (t0 := 5) (ci := 2) (i' := 0) (r := (RX2, TX2, 8)) (by show z + pos (0, 0) ≤ z + pos (0, 6); omega) hru1 rfl (hds (28, 0) List.mem_cons_self) rfl (by unfold vp_in; decide +kernel) (by decide +kernel) (dec_at okI_ce 88 rfl) (fun H3 locs3 a1 z3 f3 hS3 => ?_)
  have hno1 : ∀ d ∈ ds_2 28 ++ ds, ¬ pos d = pos (0, 4) ∧ ¬ pos d = pos (0, 6) := fun d hd => (List.mem_append.mp hd).elim (fun w => by have := pd_2 28 (by decide) rfl d w; omega) (hno d)
  have hB3 := hB1.other (a' := pos (0, 6)) (by omega) (fun d hd => (hno1 d hd).2) f3
  refine lv_iinc (v := 1) (lv' := [(1, .int 1), (0, .ref (z + pos (0, 0)))]) hx hb (dec_at okI_ce 89 rfl) hl (k := 0) rfl (by decide +kernel) (by decide) rfl (fun ls1 hl1 => ?_)
  refine lv_goto (tgt := 162) hx hb (dec_at okI_ce 90 rfl) (by decide) ?_
  exact kk H3 locs3 ls1 hB3 hno1 (by omega) hS3 hl1 (him1.kept (f3 _ (by show ¬ z + pos (0, 4) = z + pos (0, 6); omega))) (ruE_up a1)
set_option maxHeartbeats 4000000 in
set_option maxRecDepth 100000 in
theorem c_ce_ru1 {p : Program} {l : Launch} {e : Env} {R : Room} {s : State} {m : MethodId} {args : Array Value} {below : List Frame} {meth : Method} {c : Code} {H : Heap} {locs : List Loc} {Q : State → Prop} {ls : Array Slot} {D : va_G} {cA : Nat → ClassId} {z : Nat} {ds : List (Nat × Nat)} (hC : CIc p s m args meth c cX11_init 2 D cA RX11) (hex : exN s) (hR : 217 ≤ R.cells ∧ 9010 ≤ R.slots ∧ 3 ≤ R.frames ∧ 120 ≤ R.locals) (hS : va_S (fun q => z + pos (0, 0) ≤ q) s.heap H locs) (hB : CB D z (pos (0, 0) + 183) 0 Sce_4 (fnL (adZ z) cA ds) H) (hno : ∀ d ∈ ds, ¬ pos d = pos (0, 4) ∧ ¬ pos d = pos (0, 6)) (hz : H.size = z + (pos (0, 0) + 183)) (hl : lv_has ls 2 [(1, .int 1), (0, .ref (z + pos (0, 0)))]) (him : va_at D vwCl (z + pos (0, 4), imE z cA 4) H) (hru : va_at D vwCl (z + pos (0, 6), ruE z cA 1) H)
    (kk : ∀ (H1 : Heap) (locs1 : List Loc) (ls1 : Array Slot), CB D z (pos (0, 0) + 190) 0 Sce_4 (fnL (adZ z) cA (ds_2 29 ++ ds)) H1 → (∀ d ∈ ds_2 29 ++ ds, ¬ pos d = pos (0, 4) ∧ ¬ pos d = pos (0, 6)) → H1.size = z + (pos (0, 0) + 190) → va_S (fun q => z + pos (0, 0) ≤ q) s.heap H1 locs1 → lv_has ls1 2 [(1, .int 2), (0, .ref (z + pos (0, 0)))] → va_at D vwCl (z + pos (0, 4), imE z cA 4) H1 → va_at D vwCl (z + pos (0, 6), ruE z cA 2) H1 → W p l e R s m args below meth c H1 locs1 189 7026 Q (F0 m 162 ls1 [])) : W p l e R s m args below meth c H locs 182 6530 Q (F0 m 162 ls []) := by
  have hx := hC.1.1
  have hb := hC.1.2.1
  have hown := hC.1.2.2.2.1
  have hts := hC.2.1
  have p4 := ps_11_0_4
  have p6 := ps_11_0_6
  have hpo := ps_11_29_0
  refine lv_iload_n (k := 1) (i := 1) hx hb (dec_at okI_ce 79 rfl) rfl (lv_at hl 0 rfl) ?_
  refine lv_bipush (n := 6) (v := 6) hx hb (dec_at okI_ce 80 rfl) (by decide +kernel) ?_
  refine lv_icmp_ge (tgt := 187) hx hb (dec_at okI_ce 81 rfl) (by decide) (fun w => absurd w (by decide)) (fun _ => ?_)
  refine lv_aload_n (k := 0) (i := 0) hx hb (dec_at okI_ce 82 rfl) rfl (lv_at hl 1 rfl) ?_
  refine st_get hC hB (idx := 36) (N := 14) (j := 5) (T := TX11) (v := .ref (z + pos (0, 6))) rfl rfl (by decide) rfl (gk_2 210 rfl rfl) (fieldV_arr (adZ z) s0 rfl) (dec_at okI_ce 83 rfl) ?_
  refine lv_iload_n (k := 1) (i := 1) hx hb (dec_at okI_ce 84 rfl) rfl (lv_at hl 0 rfl) ?_
  refine st_new hC hS hz (idx := 34) (o' := 29) (ci := 2) (N := 8) (C := RX2) (T := TX2) rfl rfl hpo (gk_2 23 rfl rfl) (gk_2 52 rfl rfl) (gk_1 8 rfl rfl) (Nat.le_trans (Nat.le_of_ble_eq_true rfl) hR.1) (Nat.le_trans (Nat.le_of_ble_eq_true rfl) hR.2.1) (dec_at okI_ce 85 rfl) (fun H1 he1 hz1 o1 hS1 => ?_)
  refine lv_dup hx hb (dec_at okI_ce 86 rfl) rfl ?_
  refine st_callN hC hS1 hex hz1 (idx := 86) (o' := 29) (As := fun _ => []) (rest := [.ref (z + pos (29, 0)), .int 1, .ref (z + pos (0, 6))]) (np := 0) hpo (fun q h => by omega) he1 (c_ru (o := 29) rfl) (gk_2 55 rfl rfl) (gk_1 8 rfl rfl) (List.mem_of_getElem? (i := 8) rfl) (gk_2 54 rfl rfl) rfl ⟨by decide, by decide, by decide +kernel⟩ rfl ⟨(Nat.le_trans (Nat.le_of_ble_eq_true rfl) hR.2.2.1), (Nat.le_trans (Nat.le_of_ble_eq_true rfl) hR.2.2.2)⟩ hl.1 (Nat.le_of_ble_eq_true rfl) (Nat.le_trans (Nat.le_of_ble_eq_true rfl) hR.1) (Nat.le_trans (Nat.le_of_ble_eq_true rfl) hR.2.1) (dec_at okI_ce 87 rfl) (fun H2 locs2 hds hz2 hF hS2 => ?_)
  have hB1 : CB D z (pos (0, 0) + 190) 0 Sce_4 (fnL (adZ z) cA (ds_2 29 ++ ds)) H2 := (hB.grow (pos (0, 0) + 190) (by omega) (fun q hq => (hF q hq).trans (o1 q hq))).addL hds (fun d hd => by have := pd_2 29 (by decide) rfl d hd; omega)
  have him1 := (him.kept (o1 _ (by show z + pos (0, 4) < _; omega))).kept (hF _ (by show z + pos (0, 4) < _; omega))
  have hru1 := (hru.kept (o1 _ (by show z + pos (0, 6) < _; omega))).kept (hF _ (by show z + pos (0, 6) < _; omega))
  refine i_aast hC hS2 (a := z + pos (0, 6)) (v := z + pos (29, 0)) (t0 := 5) (ci := 2) (i' := 1) (r := (RX2, TX2, 8)) (by show z + pos (0, 0) ≤ z + pos (0, 6); omega) hru1 rfl (hds (29, 0) List.mem_cons_self) rfl (by unfold vp_in; decide +kernel) (by decide +kernel) (dec_at okI_ce 88 rfl) (fun H3 locs3 a1 z3 f3 hS3 => ?_)
  have hno1 : ∀ d ∈ ds_2 29 ++ ds, ¬ pos d = pos (0, 4) ∧ ¬ pos d = pos (0, 6) := fun d hd => (List.mem_append.mp hd).elim (fun w => by have := pd_2 29 (by decide) rfl d w; omega) (hno d)
  have hB3 := hB1.other (a' := pos (0, 6)) (by omega) (fun d hd => (hno1 d hd).2) f3
  refine lv_iinc (v := 2) (lv' := [(1, .int 2), (0, .ref (z + pos (0, 0)))]) hx hb (dec_at okI_ce 89 rfl) hl (k := 0) rfl (by decide +kernel) (by decide) rfl (fun ls1 hl1 => ?_)
  refine lv_goto (tgt := 162) hx hb (dec_at okI_ce 90 rfl) (by decide) ?_
  exact kk H3 locs3 ls1 hB3 hno1 (by omega) hS3 hl1 (him1.kept (f3 _ (by show ¬ z + pos (0, 4) = z + pos (0, 6); omega))) (ruE_up a1)
set_option maxHeartbeats 4000000 in
set_option maxRecDepth 100000 in
theorem c_ce_ru2 {p : Program} {l : Launch} {e : Env} {R : Room} {s : State} {m : MethodId} {args : Array Value} {below : List Frame} {meth : Method} {c : Code} {H : Heap} {locs : List Loc} {Q : State → Prop} {ls : Array Slot} {D : va_G} {cA : Nat → ClassId} {z : Nat} {ds : List (Nat × Nat)} (hC : CIc p s m args meth c cX11_init 2 D cA RX11) (hex : exN s) (hR : 217 ≤ R.cells ∧ 9010 ≤ R.slots ∧ 3 ≤ R.frames ∧ 120 ≤ R.locals) (hS : va_S (fun q => z + pos (0, 0) ≤ q) s.heap H locs) (hB : CB D z (pos (0, 0) + 190) 0 Sce_4 (fnL (adZ z) cA ds) H) (hno : ∀ d ∈ ds, ¬ pos d = pos (0, 4) ∧ ¬ pos d = pos (0, 6)) (hz : H.size = z + (pos (0, 0) + 190)) (hl : lv_has ls 2 [(1, .int 2), (0, .ref (z + pos (0, 0)))]) (him : va_at D vwCl (z + pos (0, 4), imE z cA 4) H) (hru : va_at D vwCl (z + pos (0, 6), ruE z cA 2) H)
    (kk : ∀ (H1 : Heap) (locs1 : List Loc) (ls1 : Array Slot), CB D z (pos (0, 0) + 197) 0 Sce_4 (fnL (adZ z) cA (ds_2 30 ++ ds)) H1 → (∀ d ∈ ds_2 30 ++ ds, ¬ pos d = pos (0, 4) ∧ ¬ pos d = pos (0, 6)) → H1.size = z + (pos (0, 0) + 197) → va_S (fun q => z + pos (0, 0) ≤ q) s.heap H1 locs1 → lv_has ls1 2 [(1, .int 3), (0, .ref (z + pos (0, 0)))] → va_at D vwCl (z + pos (0, 4), imE z cA 4) H1 → va_at D vwCl (z + pos (0, 6), ruE z cA 3) H1 → W p l e R s m args below meth c H1 locs1 196 7522 Q (F0 m 162 ls1 [])) : W p l e R s m args below meth c H locs 189 7026 Q (F0 m 162 ls []) := by
  have hx := hC.1.1
  have hb := hC.1.2.1
  have hown := hC.1.2.2.2.1
  have hts := hC.2.1
  have p4 := ps_11_0_4
  have p6 := ps_11_0_6
  have hpo := ps_11_30_0
  refine lv_iload_n (k := 1) (i := 1) hx hb (dec_at okI_ce 79 rfl) rfl (lv_at hl 0 rfl) ?_
  refine lv_bipush (n := 6) (v := 6) hx hb (dec_at okI_ce 80 rfl) (by decide +kernel) ?_
  refine lv_icmp_ge (tgt := 187) hx hb (dec_at okI_ce 81 rfl) (by decide) (fun w => absurd w (by decide)) (fun _ => ?_)
  refine lv_aload_n (k := 0) (i := 0) hx hb (dec_at okI_ce 82 rfl) rfl (lv_at hl 1 rfl) ?_
  refine st_get hC hB (idx := 36) (N := 14) (j := 5) (T := TX11) (v := .ref (z + pos (0, 6))) rfl rfl (by decide) rfl (gk_2 210 rfl rfl) (fieldV_arr (adZ z) s0 rfl) (dec_at okI_ce 83 rfl) ?_
  refine lv_iload_n (k := 1) (i := 1) hx hb (dec_at okI_ce 84 rfl) rfl (lv_at hl 0 rfl) ?_
  refine st_new hC hS hz (idx := 34) (o' := 30) (ci := 2) (N := 8) (C := RX2) (T := TX2) rfl rfl hpo (gk_2 23 rfl rfl) (gk_2 52 rfl rfl) (gk_1 8 rfl rfl) (Nat.le_trans (Nat.le_of_ble_eq_true rfl) hR.1) (Nat.le_trans (Nat.le_of_ble_eq_true rfl) hR.2.1) (dec_at okI_ce 85 rfl) (fun H1 he1 hz1 o1 hS1 => ?_)
  refine lv_dup hx hb (dec_at okI_ce 86 rfl) rfl ?_
  refine st_callN hC hS1 hex hz1 (idx := 86) (o' := 30) (As := fun _ => []) (rest := [.ref (z + pos (30, 0)), .int 2, .ref (z + pos (0, 6))]) (np := 0) hpo (fun q h => by omega) he1 (c_ru (o := 30) rfl) (gk_2 55 rfl rfl) (gk_1 8 rfl rfl) (List.mem_of_getElem? (i := 8) rfl) (gk_2 54 rfl rfl) rfl ⟨by decide, by decide, by decide +kernel⟩ rfl ⟨(Nat.le_trans (Nat.le_of_ble_eq_true rfl) hR.2.2.1), (Nat.le_trans (Nat.le_of_ble_eq_true rfl) hR.2.2.2)⟩ hl.1 (Nat.le_of_ble_eq_true rfl) (Nat.le_trans (Nat.le_of_ble_eq_true rfl) hR.1) (Nat.le_trans (Nat.le_of_ble_eq_true rfl) hR.2.1) (dec_at okI_ce 87 rfl) (fun H2 locs2 hds hz2 hF hS2 => ?_)
  have hB1 : CB D z (pos (0, 0) + 197) 0 Sce_4 (fnL (adZ z) cA (ds_2 30 ++ ds)) H2 := (hB.grow (pos (0, 0) + 197) (by omega) (fun q hq => (hF q hq).trans (o1 q hq))).addL hds (fun d hd => by have := pd_2 30 (by decide) rfl d hd; omega)
  have him1 := (him.kept (o1 _ (by show z + pos (0, 4) < _; omega))).kept (hF _ (by show z + pos (0, 4) < _; omega))
  have hru1 := (hru.kept (o1 _ (by show z + pos (0, 6) < _; omega))).kept (hF _ (by show z + pos (0, 6) < _; omega))
  refine i_aast hC hS2 (a := z + pos (0, 6)) (v := z + pos (30, 0)) (t0 := 5) (ci := 2) (i' := 2) (r := (RX2, TX2, 8)) (by show z + pos (0, 0) ≤ z + pos (0, 6); omega) hru1 rfl (hds (30, 0) List.mem_cons_self) rfl (by unfold vp_in; decide +kernel) (by decide +kernel) (dec_at okI_ce 88 rfl) (fun H3 locs3 a1 z3 f3 hS3 => ?_)
  have hno1 : ∀ d ∈ ds_2 30 ++ ds, ¬ pos d = pos (0, 4) ∧ ¬ pos d = pos (0, 6) := fun d hd => (List.mem_append.mp hd).elim (fun w => by have := pd_2 30 (by decide) rfl d w; omega) (hno d)
  have hB3 := hB1.other (a' := pos (0, 6)) (by omega) (fun d hd => (hno1 d hd).2) f3
  refine lv_iinc (v := 3) (lv' := [(1, .int 3), (0, .ref (z + pos (0, 0)))]) hx hb (dec_at okI_ce 89 rfl) hl (k := 0) rfl (by decide +kernel) (by decide) rfl (fun ls1 hl1 => ?_)
  refine lv_goto (tgt := 162) hx hb (dec_at okI_ce 90 rfl) (by decide) ?_
  exact kk H3 locs3 ls1 hB3 hno1 (by omega) hS3 hl1 (him1.kept (f3 _ (by show ¬ z + pos (0, 4) = z + pos (0, 6); omega))) (ruE_up a1)
set_option maxHeartbeats 4000000 in
set_option maxRecDepth 100000 in
theorem c_ce_ru3 {p : Program} {l : Launch} {e : Env} {R : Room} {s : State} {m : MethodId} {args : Array Value} {below : List Frame} {meth : Method} {c : Code} {H : Heap} {locs : List Loc} {Q : State → Prop} {ls : Array Slot} {D : va_G} {cA : Nat → ClassId} {z : Nat} {ds : List (Nat × Nat)} (hC : CIc p s m args meth c cX11_init 2 D cA RX11) (hex : exN s) (hR : 217 ≤ R.cells ∧ 9010 ≤ R.slots ∧ 3 ≤ R.frames ∧ 120 ≤ R.locals) (hS : va_S (fun q => z + pos (0, 0) ≤ q) s.heap H locs) (hB : CB D z (pos (0, 0) + 197) 0 Sce_4 (fnL (adZ z) cA ds) H) (hno : ∀ d ∈ ds, ¬ pos d = pos (0, 4) ∧ ¬ pos d = pos (0, 6)) (hz : H.size = z + (pos (0, 0) + 197)) (hl : lv_has ls 2 [(1, .int 3), (0, .ref (z + pos (0, 0)))]) (him : va_at D vwCl (z + pos (0, 4), imE z cA 4) H) (hru : va_at D vwCl (z + pos (0, 6), ruE z cA 3) H)
    (kk : ∀ (H1 : Heap) (locs1 : List Loc) (ls1 : Array Slot), CB D z (pos (0, 0) + 204) 0 Sce_4 (fnL (adZ z) cA (ds_2 31 ++ ds)) H1 → (∀ d ∈ ds_2 31 ++ ds, ¬ pos d = pos (0, 4) ∧ ¬ pos d = pos (0, 6)) → H1.size = z + (pos (0, 0) + 204) → va_S (fun q => z + pos (0, 0) ≤ q) s.heap H1 locs1 → lv_has ls1 2 [(1, .int 4), (0, .ref (z + pos (0, 0)))] → va_at D vwCl (z + pos (0, 4), imE z cA 4) H1 → va_at D vwCl (z + pos (0, 6), ruE z cA 4) H1 → W p l e R s m args below meth c H1 locs1 203 8018 Q (F0 m 162 ls1 [])) : W p l e R s m args below meth c H locs 196 7522 Q (F0 m 162 ls []) := by
  have hx := hC.1.1
  have hb := hC.1.2.1
  have hown := hC.1.2.2.2.1
  have hts := hC.2.1
  have p4 := ps_11_0_4
  have p6 := ps_11_0_6
  have hpo := ps_11_31_0
  refine lv_iload_n (k := 1) (i := 1) hx hb (dec_at okI_ce 79 rfl) rfl (lv_at hl 0 rfl) ?_
  refine lv_bipush (n := 6) (v := 6) hx hb (dec_at okI_ce 80 rfl) (by decide +kernel) ?_
  refine lv_icmp_ge (tgt := 187) hx hb (dec_at okI_ce 81 rfl) (by decide) (fun w => absurd w (by decide)) (fun _ => ?_)
  refine lv_aload_n (k := 0) (i := 0) hx hb (dec_at okI_ce 82 rfl) rfl (lv_at hl 1 rfl) ?_
  refine st_get hC hB (idx := 36) (N := 14) (j := 5) (T := TX11) (v := .ref (z + pos (0, 6))) rfl rfl (by decide) rfl (gk_2 210 rfl rfl) (fieldV_arr (adZ z) s0 rfl) (dec_at okI_ce 83 rfl) ?_
  refine lv_iload_n (k := 1) (i := 1) hx hb (dec_at okI_ce 84 rfl) rfl (lv_at hl 0 rfl) ?_
  refine st_new hC hS hz (idx := 34) (o' := 31) (ci := 2) (N := 8) (C := RX2) (T := TX2) rfl rfl hpo (gk_2 23 rfl rfl) (gk_2 52 rfl rfl) (gk_1 8 rfl rfl) (Nat.le_trans (Nat.le_of_ble_eq_true rfl) hR.1) (Nat.le_trans (Nat.le_of_ble_eq_true rfl) hR.2.1) (dec_at okI_ce 85 rfl) (fun H1 he1 hz1 o1 hS1 => ?_)
  refine lv_dup hx hb (dec_at okI_ce 86 rfl) rfl ?_
  refine st_callN hC hS1 hex hz1 (idx := 86) (o' := 31) (As := fun _ => []) (rest := [.ref (z + pos (31, 0)), .int 3, .ref (z + pos (0, 6))]) (np := 0) hpo (fun q h => by omega) he1 (c_ru (o := 31) rfl) (gk_2 55 rfl rfl) (gk_1 8 rfl rfl) (List.mem_of_getElem? (i := 8) rfl) (gk_2 54 rfl rfl) rfl ⟨by decide, by decide, by decide +kernel⟩ rfl ⟨(Nat.le_trans (Nat.le_of_ble_eq_true rfl) hR.2.2.1), (Nat.le_trans (Nat.le_of_ble_eq_true rfl) hR.2.2.2)⟩ hl.1 (Nat.le_of_ble_eq_true rfl) (Nat.le_trans (Nat.le_of_ble_eq_true rfl) hR.1) (Nat.le_trans (Nat.le_of_ble_eq_true rfl) hR.2.1) (dec_at okI_ce 87 rfl) (fun H2 locs2 hds hz2 hF hS2 => ?_)
  have hB1 : CB D z (pos (0, 0) + 204) 0 Sce_4 (fnL (adZ z) cA (ds_2 31 ++ ds)) H2 := (hB.grow (pos (0, 0) + 204) (by omega) (fun q hq => (hF q hq).trans (o1 q hq))).addL hds (fun d hd => by have := pd_2 31 (by decide) rfl d hd; omega)
  have him1 := (him.kept (o1 _ (by show z + pos (0, 4) < _; omega))).kept (hF _ (by show z + pos (0, 4) < _; omega))
  have hru1 := (hru.kept (o1 _ (by show z + pos (0, 6) < _; omega))).kept (hF _ (by show z + pos (0, 6) < _; omega))
  refine i_aast hC hS2 (a := z + pos (0, 6)) (v := z + pos (31, 0)) (t0 := 5) (ci := 2) (i' := 3) (r := (RX2, TX2, 8)) (by show z + pos (0, 0) ≤ z + pos (0, 6); omega) hru1 rfl (hds (31, 0) List.mem_cons_self) rfl (by unfold vp_in; decide +kernel) (by decide +kernel) (dec_at okI_ce 88 rfl) (fun H3 locs3 a1 z3 f3 hS3 => ?_)
  have hno1 : ∀ d ∈ ds_2 31 ++ ds, ¬ pos d = pos (0, 4) ∧ ¬ pos d = pos (0, 6) := fun d hd => (List.mem_append.mp hd).elim (fun w => by have := pd_2 31 (by decide) rfl d w; omega) (hno d)
  have hB3 := hB1.other (a' := pos (0, 6)) (by omega) (fun d hd => (hno1 d hd).2) f3
  refine lv_iinc (v := 4) (lv' := [(1, .int 4), (0, .ref (z + pos (0, 0)))]) hx hb (dec_at okI_ce 89 rfl) hl (k := 0) rfl (by decide +kernel) (by decide) rfl (fun ls1 hl1 => ?_)
  refine lv_goto (tgt := 162) hx hb (dec_at okI_ce 90 rfl) (by decide) ?_
  exact kk H3 locs3 ls1 hB3 hno1 (by omega) hS3 hl1 (him1.kept (f3 _ (by show ¬ z + pos (0, 4) = z + pos (0, 6); omega))) (ruE_up a1)
set_option maxHeartbeats 4000000 in
set_option maxRecDepth 100000 in
theorem c_ce_ru4 {p : Program} {l : Launch} {e : Env} {R : Room} {s : State} {m : MethodId} {args : Array Value} {below : List Frame} {meth : Method} {c : Code} {H : Heap} {locs : List Loc} {Q : State → Prop} {ls : Array Slot} {D : va_G} {cA : Nat → ClassId} {z : Nat} {ds : List (Nat × Nat)} (hC : CIc p s m args meth c cX11_init 2 D cA RX11) (hex : exN s) (hR : 217 ≤ R.cells ∧ 9010 ≤ R.slots ∧ 3 ≤ R.frames ∧ 120 ≤ R.locals) (hS : va_S (fun q => z + pos (0, 0) ≤ q) s.heap H locs) (hB : CB D z (pos (0, 0) + 204) 0 Sce_4 (fnL (adZ z) cA ds) H) (hno : ∀ d ∈ ds, ¬ pos d = pos (0, 4) ∧ ¬ pos d = pos (0, 6)) (hz : H.size = z + (pos (0, 0) + 204)) (hl : lv_has ls 2 [(1, .int 4), (0, .ref (z + pos (0, 0)))]) (him : va_at D vwCl (z + pos (0, 4), imE z cA 4) H) (hru : va_at D vwCl (z + pos (0, 6), ruE z cA 4) H)
    (kk : ∀ (H1 : Heap) (locs1 : List Loc) (ls1 : Array Slot), CB D z (pos (0, 0) + 211) 0 Sce_4 (fnL (adZ z) cA (ds_2 32 ++ ds)) H1 → (∀ d ∈ ds_2 32 ++ ds, ¬ pos d = pos (0, 4) ∧ ¬ pos d = pos (0, 6)) → H1.size = z + (pos (0, 0) + 211) → va_S (fun q => z + pos (0, 0) ≤ q) s.heap H1 locs1 → lv_has ls1 2 [(1, .int 5), (0, .ref (z + pos (0, 0)))] → va_at D vwCl (z + pos (0, 4), imE z cA 4) H1 → va_at D vwCl (z + pos (0, 6), ruE z cA 5) H1 → W p l e R s m args below meth c H1 locs1 210 8514 Q (F0 m 162 ls1 [])) : W p l e R s m args below meth c H locs 203 8018 Q (F0 m 162 ls []) := by
  have hx := hC.1.1
  have hb := hC.1.2.1
  have hown := hC.1.2.2.2.1
  have hts := hC.2.1
  have p4 := ps_11_0_4
  have p6 := ps_11_0_6
  have hpo := ps_11_32_0
  refine lv_iload_n (k := 1) (i := 1) hx hb (dec_at okI_ce 79 rfl) rfl (lv_at hl 0 rfl) ?_
  refine lv_bipush (n := 6) (v := 6) hx hb (dec_at okI_ce 80 rfl) (by decide +kernel) ?_
  refine lv_icmp_ge (tgt := 187) hx hb (dec_at okI_ce 81 rfl) (by decide) (fun w => absurd w (by decide)) (fun _ => ?_)
  refine lv_aload_n (k := 0) (i := 0) hx hb (dec_at okI_ce 82 rfl) rfl (lv_at hl 1 rfl) ?_
  refine st_get hC hB (idx := 36) (N := 14) (j := 5) (T := TX11) (v := .ref (z + pos (0, 6))) rfl rfl (by decide) rfl (gk_2 210 rfl rfl) (fieldV_arr (adZ z) s0 rfl) (dec_at okI_ce 83 rfl) ?_
  refine lv_iload_n (k := 1) (i := 1) hx hb (dec_at okI_ce 84 rfl) rfl (lv_at hl 0 rfl) ?_
  refine st_new hC hS hz (idx := 34) (o' := 32) (ci := 2) (N := 8) (C := RX2) (T := TX2) rfl rfl hpo (gk_2 23 rfl rfl) (gk_2 52 rfl rfl) (gk_1 8 rfl rfl) (Nat.le_trans (Nat.le_of_ble_eq_true rfl) hR.1) (Nat.le_trans (Nat.le_of_ble_eq_true rfl) hR.2.1) (dec_at okI_ce 85 rfl) (fun H1 he1 hz1 o1 hS1 => ?_)
  refine lv_dup hx hb (dec_at okI_ce 86 rfl) rfl ?_
  refine st_callN hC hS1 hex hz1 (idx := 86) (o' := 32) (As := fun _ => []) (rest := [.ref (z + pos (32, 0)), .int 4, .ref (z + pos (0, 6))]) (np := 0) hpo (fun q h => by omega) he1 (c_ru (o := 32) rfl) (gk_2 55 rfl rfl) (gk_1 8 rfl rfl) (List.mem_of_getElem? (i := 8) rfl) (gk_2 54 rfl rfl) rfl ⟨by decide, by decide, by decide +kernel⟩ rfl ⟨(Nat.le_trans (Nat.le_of_ble_eq_true rfl) hR.2.2.1), (Nat.le_trans (Nat.le_of_ble_eq_true rfl) hR.2.2.2)⟩ hl.1 (Nat.le_of_ble_eq_true rfl) (Nat.le_trans (Nat.le_of_ble_eq_true rfl) hR.1) (Nat.le_trans (Nat.le_of_ble_eq_true rfl) hR.2.1) (dec_at okI_ce 87 rfl) (fun H2 locs2 hds hz2 hF hS2 => ?_)
  have hB1 : CB D z (pos (0, 0) + 211) 0 Sce_4 (fnL (adZ z) cA (ds_2 32 ++ ds)) H2 := (hB.grow (pos (0, 0) + 211) (by omega) (fun q hq => (hF q hq).trans (o1 q hq))).addL hds (fun d hd => by have := pd_2 32 (by decide) rfl d hd; omega)
  have him1 := (him.kept (o1 _ (by show z + pos (0, 4) < _; omega))).kept (hF _ (by show z + pos (0, 4) < _; omega))
  have hru1 := (hru.kept (o1 _ (by show z + pos (0, 6) < _; omega))).kept (hF _ (by show z + pos (0, 6) < _; omega))
  refine i_aast hC hS2 (a := z + pos (0, 6)) (v := z + pos (32, 0)) (t0 := 5) (ci := 2) (i' := 4) (r := (RX2, TX2, 8)) (by show z + pos (0, 0) ≤ z + pos (0, 6); omega) hru1 rfl (hds (32, 0) List.mem_cons_self) rfl (by unfold vp_in; decide +kernel) (by decide +kernel) (dec_at okI_ce 88 rfl) (fun H3 locs3 a1 z3 f3 hS3 => ?_)
  have hno1 : ∀ d ∈ ds_2 32 ++ ds, ¬ pos d = pos (0, 4) ∧ ¬ pos d = pos (0, 6) := fun d hd => (List.mem_append.mp hd).elim (fun w => by have := pd_2 32 (by decide) rfl d w; omega) (hno d)
  have hB3 := hB1.other (a' := pos (0, 6)) (by omega) (fun d hd => (hno1 d hd).2) f3
  refine lv_iinc (v := 5) (lv' := [(1, .int 5), (0, .ref (z + pos (0, 0)))]) hx hb (dec_at okI_ce 89 rfl) hl (k := 0) rfl (by decide +kernel) (by decide) rfl (fun ls1 hl1 => ?_)
  refine lv_goto (tgt := 162) hx hb (dec_at okI_ce 90 rfl) (by decide) ?_
  exact kk H3 locs3 ls1 hB3 hno1 (by omega) hS3 hl1 (him1.kept (f3 _ (by show ¬ z + pos (0, 4) = z + pos (0, 6); omega))) (ruE_up a1)
set_option maxHeartbeats 4000000 in
set_option maxRecDepth 100000 in
theorem c_ce_ru5 {p : Program} {l : Launch} {e : Env} {R : Room} {s : State} {m : MethodId} {args : Array Value} {below : List Frame} {meth : Method} {c : Code} {H : Heap} {locs : List Loc} {Q : State → Prop} {ls : Array Slot} {D : va_G} {cA : Nat → ClassId} {z : Nat} {ds : List (Nat × Nat)} (hC : CIc p s m args meth c cX11_init 2 D cA RX11) (hex : exN s) (hR : 217 ≤ R.cells ∧ 9010 ≤ R.slots ∧ 3 ≤ R.frames ∧ 120 ≤ R.locals) (hS : va_S (fun q => z + pos (0, 0) ≤ q) s.heap H locs) (hB : CB D z (pos (0, 0) + 211) 0 Sce_4 (fnL (adZ z) cA ds) H) (hno : ∀ d ∈ ds, ¬ pos d = pos (0, 4) ∧ ¬ pos d = pos (0, 6)) (hz : H.size = z + (pos (0, 0) + 211)) (hl : lv_has ls 2 [(1, .int 5), (0, .ref (z + pos (0, 0)))]) (him : va_at D vwCl (z + pos (0, 4), imE z cA 4) H) (hru : va_at D vwCl (z + pos (0, 6), ruE z cA 5) H)
    (kk : ∀ (H1 : Heap) (locs1 : List Loc) (ls1 : Array Slot), CB D z (pos (0, 0) + 218) 0 Sce_4 (fnL (adZ z) cA (ds_2 33 ++ ds)) H1 → (∀ d ∈ ds_2 33 ++ ds, ¬ pos d = pos (0, 4) ∧ ¬ pos d = pos (0, 6)) → H1.size = z + (pos (0, 0) + 218) → va_S (fun q => z + pos (0, 0) ≤ q) s.heap H1 locs1 → lv_has ls1 2 [(1, .int 6), (0, .ref (z + pos (0, 0)))] → va_at D vwCl (z + pos (0, 4), imE z cA 4) H1 → va_at D vwCl (z + pos (0, 6), ruE z cA 6) H1 → W p l e R s m args below meth c H1 locs1 217 9010 Q (F0 m 162 ls1 [])) : W p l e R s m args below meth c H locs 210 8514 Q (F0 m 162 ls []) := by
  have hx := hC.1.1
  have hb := hC.1.2.1
  have hown := hC.1.2.2.2.1
  have hts := hC.2.1
  have p4 := ps_11_0_4
  have p6 := ps_11_0_6
  have hpo := ps_11_33_0
  refine lv_iload_n (k := 1) (i := 1) hx hb (dec_at okI_ce 79 rfl) rfl (lv_at hl 0 rfl) ?_
  refine lv_bipush (n := 6) (v := 6) hx hb (dec_at okI_ce 80 rfl) (by decide +kernel) ?_
  refine lv_icmp_ge (tgt := 187) hx hb (dec_at okI_ce 81 rfl) (by decide) (fun w => absurd w (by decide)) (fun _ => ?_)
  refine lv_aload_n (k := 0) (i := 0) hx hb (dec_at okI_ce 82 rfl) rfl (lv_at hl 1 rfl) ?_
  refine st_get hC hB (idx := 36) (N := 14) (j := 5) (T := TX11) (v := .ref (z + pos (0, 6))) rfl rfl (by decide) rfl (gk_2 210 rfl rfl) (fieldV_arr (adZ z) s0 rfl) (dec_at okI_ce 83 rfl) ?_
  refine lv_iload_n (k := 1) (i := 1) hx hb (dec_at okI_ce 84 rfl) rfl (lv_at hl 0 rfl) ?_
  refine st_new hC hS hz (idx := 34) (o' := 33) (ci := 2) (N := 8) (C := RX2) (T := TX2) rfl rfl hpo (gk_2 23 rfl rfl) (gk_2 52 rfl rfl) (gk_1 8 rfl rfl) (Nat.le_trans (Nat.le_of_ble_eq_true rfl) hR.1) (Nat.le_trans (Nat.le_of_ble_eq_true rfl) hR.2.1) (dec_at okI_ce 85 rfl) (fun H1 he1 hz1 o1 hS1 => ?_)
  refine lv_dup hx hb (dec_at okI_ce 86 rfl) rfl ?_
  refine st_callN hC hS1 hex hz1 (idx := 86) (o' := 33) (As := fun _ => []) (rest := [.ref (z + pos (33, 0)), .int 5, .ref (z + pos (0, 6))]) (np := 0) hpo (fun q h => by omega) he1 (c_ru (o := 33) rfl) (gk_2 55 rfl rfl) (gk_1 8 rfl rfl) (List.mem_of_getElem? (i := 8) rfl) (gk_2 54 rfl rfl) rfl ⟨by decide, by decide, by decide +kernel⟩ rfl ⟨(Nat.le_trans (Nat.le_of_ble_eq_true rfl) hR.2.2.1), (Nat.le_trans (Nat.le_of_ble_eq_true rfl) hR.2.2.2)⟩ hl.1 (Nat.le_of_ble_eq_true rfl) (Nat.le_trans (Nat.le_of_ble_eq_true rfl) hR.1) (Nat.le_trans (Nat.le_of_ble_eq_true rfl) hR.2.1) (dec_at okI_ce 87 rfl) (fun H2 locs2 hds hz2 hF hS2 => ?_)
  have hB1 : CB D z (pos (0, 0) + 218) 0 Sce_4 (fnL (adZ z) cA (ds_2 33 ++ ds)) H2 := (hB.grow (pos (0, 0) + 218) (by omega) (fun q hq => (hF q hq).trans (o1 q hq))).addL hds (fun d hd => by have := pd_2 33 (by decide) rfl d hd; omega)
  have him1 := (him.kept (o1 _ (by show z + pos (0, 4) < _; omega))).kept (hF _ (by show z + pos (0, 4) < _; omega))
  have hru1 := (hru.kept (o1 _ (by show z + pos (0, 6) < _; omega))).kept (hF _ (by show z + pos (0, 6) < _; omega))
  refine i_aast hC hS2 (a := z + pos (0, 6)) (v := z + pos (33, 0)) (t0 := 5) (ci := 2) (i' := 5) (r := (RX2, TX2, 8)) (by show z + pos (0, 0) ≤ z + pos (0, 6); omega) hru1 rfl (hds (33, 0) List.mem_cons_self) rfl (by unfold vp_in; decide +kernel) (by decide +kernel) (dec_at okI_ce 88 rfl) (fun H3 locs3 a1 z3 f3 hS3 => ?_)
  have hno1 : ∀ d ∈ ds_2 33 ++ ds, ¬ pos d = pos (0, 4) ∧ ¬ pos d = pos (0, 6) := fun d hd => (List.mem_append.mp hd).elim (fun w => by have := pd_2 33 (by decide) rfl d w; omega) (hno d)
  have hB3 := hB1.other (a' := pos (0, 6)) (by omega) (fun d hd => (hno1 d hd).2) f3
  refine lv_iinc (v := 6) (lv' := [(1, .int 6), (0, .ref (z + pos (0, 0)))]) hx hb (dec_at okI_ce 89 rfl) hl (k := 0) rfl (by decide +kernel) (by decide) rfl (fun ls1 hl1 => ?_)
  refine lv_goto (tgt := 162) hx hb (dec_at okI_ce 90 rfl) (by decide) ?_
  exact kk H3 locs3 ls1 hB3 hno1 (by omega) hS3 hl1 (him1.kept (f3 _ (by show ¬ z + pos (0, 4) = z + pos (0, 6); omega))) (ruE_up a1)
set_option maxHeartbeats 4000000 in
set_option maxRecDepth 100000 in
theorem c_ce : CM yX11_init cX11_init 2 0 3 217 9010 (ds_11 0) (fun _ => []) := by
  intro l D cA z
  have ho : cls 0 = 11 := rfl
  refine Met.ofW (cc := cX11_init) (maxL := 2) (ret := none) (by decide) rfl ?_
  intro p e s m args below meth c s₁ B hml hv
  obtain ⟨rfl, hz, he, hK, hex⟩ := hv
  have hx := B.exec
  have hb := B.bytes
  have hr := B.returns
  have hts0 := atoms_spec (ws := .code yX11_init cX11_init 2 none :: gtb) B.pre
  have hown : s.vm.findClass RX11 = some m.cls := findClass_of_methodNamed B.named
  have hlocks := B.notSynchronized
  have hin : meth.name = "<init>" := (name_of_methodNamed B.named B.method).1
  have hts : ∀ w ∈ gtb, w.before _ s = true := fun w h => hts0 w (List.mem_cons_of_mem _ h)
  have hC : CIc p s m _ meth c cX11_init 2 D cA RX11 := ⟨⟨hx, hb, hml, hown, hin⟩, hts, hK⟩
  have hS : va_S (fun q => z + pos (0, 0) ≤ q) s.heap s.heap [] := va_S.rf
  have hB : CB D z (pos (0, 0) + 1) 0 (fun _ => false) (fnL (adZ z) cA []) s.heap := ⟨by omega, he, fun q hq => by cases hq⟩
  have hz : s.heap.size = z + (pos (0, 0) + 1) := by omega
  have hl := lv_entry ([.ref (z + pos (0, 0))]) (n := 2) (Nat.le_of_ble_eq_true rfl)
  rw [lg_entry_eq]
  generalize (lg_sl ([.ref (z + pos (0, 0))]) ++ List.replicate (2 - (lg_sl ([.ref (z + pos (0, 0))])).length) Slot.unset).toArray = ls at hl ⊢
  have hl : lv_has ls 2 [(0, .ref (z + pos (0, 0)))] := hl
  refine lv_aload_n (k := 0) (i := 0) hx hb (dec_at okI_ce 0 rfl) rfl (lv_at hl 0 rfl) ?_
  refine W.objInit hx hb hown (hts _ (gk_1 25 rfl rfl)) (hts _ (gk_1 26 rfl rfl)) (hts _ (gk_1 27 rfl rfl)) rfl (by rw [hml]; exact hl.1) rfl (dec_at okI_ce 1 rfl) (Nat.le_of_ble_eq_true rfl) (Nat.le_of_ble_eq_true rfl) ?_
  refine W.eq (g2 := F0 m 4 ls []) rfl ?_
  have hR : 217 ≤ (rmI 3 217 9010).cells ∧ 9010 ≤ (rmI 3 217 9010).slots ∧ 3 ≤ (rmI 3 217 9010).frames ∧ 120 ≤ (rmI 3 217 9010).locals := ⟨Nat.le_refl _, Nat.le_refl _, Nat.le_refl _, Nat.le_refl _⟩
  have hB : CB D z (pos (0, 0) + 1) 0 Sce_0 (fnL (adZ z) cA dce_0) s.heap := hB
  refine c_ce_1 hC hex hR hS hB hz hl (fun H1 locs1 hB1 hz1 hS1 him1 => ?_)
  clear hB hz hS
  have hB := hB1
  have hz := hz1
  have hS := hS1
  have him := him1
  clear hB1 hz1 hS1 him1
  refine c_ce_2 hC hex hR hS hB hz hl him (fun H1 locs1 hB1 hz1 hS1 him1 hru1 => ?_)
  clear hB hz hS him
  have hB := hB1
  have hz := hz1
  have hS := hS1
  have him := him1
  have hru := hru1
  clear hB1 hz1 hS1 him1 hru1
  refine c_ce_3 hC hex hR hS hB hz hl him hru (fun H1 locs1 hB1 hz1 hS1 him1 hru1 => ?_)
  clear hB hz hS him hru
  have hB := hB1
  have hz := hz1
  have hS := hS1
  have him := him1
  have hru := hru1
  clear hB1 hz1 hS1 him1 hru1
  refine c_ce_4 hC hex hR hS hB hz hl him hru (fun H1 locs1 hB1 hz1 hS1 him1 hru1 => ?_)
  clear hB hz hS him hru
  have hB := hB1
  have hz := hz1
  have hS := hS1
  have him := him1
  have hru := hru1
  clear hB1 hz1 hS1 him1 hru1
  refine lv_iconst (n := 0) (v := 0) hx hb (dec_at okI_ce 63 rfl) (by decide +kernel) ?_
  refine lv_istore_n (k := 1) (i := 1) (lv' := [(1, .int 0), (0, .ref (z + pos (0, 0)))]) hx hb (dec_at okI_ce 64 rfl) rfl hl (by decide) rfl (fun ls1 hl1 => ?_)
  clear hl
  have hl := hl1
  clear hl1
  have hno : ∀ d ∈ dce_4, ¬ pos d = pos (0, 4) ∧ ¬ pos d = pos (0, 6) := by decide +kernel
  refine W.eq (g2 := F0 m 136 ls1 []) rfl ?_
  refine c_ce_im0 hC hex hR hS hB hno hz hl him hru (fun H1 locs1 ls1 hB1 hno1 hz1 hS1 hl1 him1 hru1 => ?_)
  clear hB hno hz hS hl him hru
  have hB := hB1
  have hno := hno1
  have hz := hz1
  have hS := hS1
  have hl := hl1
  have him := him1
  have hru := hru1
  clear hB1 hno1 hz1 hS1 hl1 him1 hru1
  refine c_ce_im1 hC hex hR hS hB hno hz hl him hru (fun H1 locs1 ls1 hB1 hno1 hz1 hS1 hl1 him1 hru1 => ?_)
  clear hB hno hz hS hl him hru
  have hB := hB1
  have hno := hno1
  have hz := hz1
  have hS := hS1
  have hl := hl1
  have him := him1
  have hru := hru1
  clear hB1 hno1 hz1 hS1 hl1 him1 hru1
  refine c_ce_im2 hC hex hR hS hB hno hz hl him hru (fun H1 locs1 ls1 hB1 hno1 hz1 hS1 hl1 him1 hru1 => ?_)
  clear hB hno hz hS hl him hru
  have hB := hB1
  have hno := hno1
  have hz := hz1
  have hS := hS1
  have hl := hl1
  have him := him1
  have hru := hru1
  clear hB1 hno1 hz1 hS1 hl1 him1 hru1
  refine c_ce_im3 hC hex hR hS hB hno hz hl him hru (fun H1 locs1 ls1 hB1 hno1 hz1 hS1 hl1 him1 hru1 => ?_)
  clear hB hno hz hS hl him hru
  have hB := hB1
  have hno := hno1
  have hz := hz1
  have hS := hS1
  have hl := hl1
  have him := him1
  have hru := hru1
  clear hB1 hno1 hz1 hS1 hl1 him1 hru1
  refine lv_iload_n (k := 1) (i := 1) hx hb (dec_at okI_ce 65 rfl) rfl (lv_at hl 0 rfl) ?_
  refine lv_iconst (n := 4) (v := 4) hx hb (dec_at okI_ce 66 rfl) (by decide +kernel) ?_
  refine lv_icmp_ge (tgt := 160) hx hb (dec_at okI_ce 67 rfl) (by decide) (fun _ => ?_) (fun w => absurd (by decide) w)
  refine lv_iconst (n := 0) (v := 0) hx hb (dec_at okI_ce 77 rfl) (by decide +kernel) ?_
  refine lv_istore_n (k := 1) (i := 1) (lv' := [(1, .int 0), (0, .ref (z + pos (0, 0)))]) hx hb (dec_at okI_ce 78 rfl) rfl hl (by decide) rfl (fun ls1 hl1 => ?_)
  clear hl
  have hl := hl1
  clear hl1
  refine W.eq (g2 := F0 m 162 ls1 []) rfl ?_
  refine c_ce_ru0 hC hex hR hS hB hno hz hl him hru (fun H1 locs1 ls1 hB1 hno1 hz1 hS1 hl1 him1 hru1 => ?_)
  clear hB hno hz hS hl him hru
  have hB := hB1
  have hno := hno1
  have hz := hz1
  have hS := hS1
  have hl := hl1
  have him := him1
  have hru := hru1
  clear hB1 hno1 hz1 hS1 hl1 him1 hru1
  refine c_ce_ru1 hC hex hR hS hB hno hz hl him hru (fun H1 locs1 ls1 hB1 hno1 hz1 hS1 hl1 him1 hru1 => ?_)
  clear hB hno hz hS hl him hru
  have hB := hB1
  have hno := hno1
  have hz := hz1
  have hS := hS1
  have hl := hl1
  have him := him1
  have hru := hru1
  clear hB1 hno1 hz1 hS1 hl1 him1 hru1
  refine c_ce_ru2 hC hex hR hS hB hno hz hl him hru (fun H1 locs1 ls1 hB1 hno1 hz1 hS1 hl1 him1 hru1 => ?_)
  clear hB hno hz hS hl him hru
  have hB := hB1
  have hno := hno1
  have hz := hz1
  have hS := hS1
  have hl := hl1
  have him := him1
  have hru := hru1
  clear hB1 hno1 hz1 hS1 hl1 him1 hru1
  refine c_ce_ru3 hC hex hR hS hB hno hz hl him hru (fun H1 locs1 ls1 hB1 hno1 hz1 hS1 hl1 him1 hru1 => ?_)
  clear hB hno hz hS hl him hru
  have hB := hB1
  have hno := hno1
  have hz := hz1
  have hS := hS1
  have hl := hl1
  have him := him1
  have hru := hru1
  clear hB1 hno1 hz1 hS1 hl1 him1 hru1
  refine c_ce_ru4 hC hex hR hS hB hno hz hl him hru (fun H1 locs1 ls1 hB1 hno1 hz1 hS1 hl1 him1 hru1 => ?_)
  clear hB hno hz hS hl him hru
  have hB := hB1
  have hno := hno1
  have hz := hz1
  have hS := hS1
  have hl := hl1
  have him := him1
  have hru := hru1
  clear hB1 hno1 hz1 hS1 hl1 him1 hru1
  refine c_ce_ru5 hC hex hR hS hB hno hz hl him hru (fun H1 locs1 ls1 hB1 hno1 hz1 hS1 hl1 him1 hru1 => ?_)
  clear hB hno hz hS hl him hru
  have hB := hB1
  have hno := hno1
  have hz := hz1
  have hS := hS1
  have hl := hl1
  have him := him1
  have hru := hru1
  clear hB1 hno1 hz1 hS1 hl1 him1 hru1
  refine lv_iload_n (k := 1) (i := 1) hx hb (dec_at okI_ce 79 rfl) rfl (lv_at hl 0 rfl) ?_
  refine lv_bipush (n := 6) (v := 6) hx hb (dec_at okI_ce 80 rfl) (by decide +kernel) ?_
  refine lv_icmp_ge (tgt := 187) hx hb (dec_at okI_ce 81 rfl) (by decide) (fun _ => ?_) (fun w => absurd (by decide) w)
  refine W.widen (k := 217) (n := 9010) (Nat.le_of_ble_eq_true rfl) (Nat.le_of_ble_eq_true rfl) ?_
  have hfull : ∀ j, j < nF (cls 0) → Sce_4 j = true ∨ fieldV (adZ z) s0 0 j = dvF (ftab (cls 0) j).1 := by
    intro j hj
    rw [ho] at hj ⊢
    have hd : ∀ j, j < nF 11 → Sce_4 j = true ∨ (ftab 11 j).1 < 3 := by decide +kernel
    by_cases q : Sce_4 j = true
    · exact Or.inl q
    · refine Or.inr ?_
      have h3 := (hd j hj).resolve_left q
      rw [← ho] at h3 ⊢
      refine fv_def h3 (if_neg (fun w => ?_))
      obtain ⟨w, _⟩ := w
      exact absurd w (by decide)
  refine W.vret hx hb hr (fun t ht hW => ⟨⟨(), rfl, trivial, by rw [ht]; omega, fun d hd => ?_⟩, hS.F ht⟩) hS.2.2 (dec_at okI_ce 91 rfl)
  rw [ht]
  rcases List.mem_cons.mp hd with rfl | hd
  · have h9 := hB.2.1
    rw [fsK_full (cA := cA) hfull] at h9
    exact h9
  · have hin : ∀ d ∈ ds_11 0, d = (0, 0) ∨ d = (0, 4) ∨ d = (0, 6) ∨ d ∈ ds_2 33 ++ (ds_2 32 ++ (ds_2 31 ++ (ds_2 30 ++ (ds_2 29 ++ (ds_2 28 ++ (ds_7 17 ++ (ds_7 14 ++ (ds_7 11 ++ (ds_7 8 ++ dce_4))))))))) := by decide +kernel
    rcases hin d (List.mem_cons_of_mem _ hd) with w | w | w | w
    · rw [w]
      have h9 := hB.2.1
      rw [fsK_full (cA := cA) hfull] at h9
      exact h9
    · rw [w]; exact imE_full him
    · rw [w]; exact ruE_full hru
    · exact (hB.2.2 (d, kcell (adZ z) cA s0 d) (List.mem_map.mpr ⟨d, w, rfl⟩)).1
