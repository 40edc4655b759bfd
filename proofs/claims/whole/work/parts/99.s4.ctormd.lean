/-! ===== constructors: the reference's ===== -/
def Smd_0 : Nat → Bool := fun _ => false
def dmd_0 : List (Nat × Nat) := []
def Smd_1 : Nat → Bool := (addS (addS (addS (addS (addS (addS (addS (addS Smd_0 1) 2) 3) 4) 5) 6) 7) 8)
def dmd_1 : List (Nat × Nat) := ((34, 9) :: ((34, 8) :: ((34, 7) :: ((34, 6) :: ((34, 5) :: ((34, 4) :: ((34, 3) :: ((34, 2) :: dmd_0))))))))
set_option maxHeartbeats 4000000 in
set_option maxRecDepth 100000 in
theorem c_md_1 {p : Program} {l : Launch} {e : Env} {R : Room} {s : State} {m : MethodId} {args : Array Value} {below : List Frame} {meth : Method} {c : Code} {H : Heap} {locs : List Loc} {Q : State → Prop} {ls : Array Slot} {D : va_G} {cA : Nat → ClassId} {z : Nat} (hC : CIc p s m args meth c cX12_init 1 D cA RX12) (hex : exN s) (hR : 56 ≤ R.cells ∧ 151197 ≤ R.slots ∧ 1 ≤ R.frames ∧ 40 ≤ R.locals) (hS : va_S (fun q => z + pos (34, 0) ≤ q) s.heap H locs) (hB : CB D z (pos (34, 0) + 1) 34 Smd_0 (fnL (adZ z) cA dmd_0) H) (hz : H.size = z + (pos (34, 0) + 1)) (hl : lv_has ls 1 [(0, .ref (z + pos (34, 0)))])
    (kk : ∀ (H1 : Heap) (locs1 : List Loc), CB D z (pos (34, 0) + 9) 34 Smd_1 (fnL (adZ z) cA dmd_1) H1 → H1.size = z + (pos (34, 0) + 9) → va_S (fun q => z + pos (34, 0) ≤ q) s.heap H1 locs1 → W p l e R s m args below meth c H1 locs1 8 101 Q (F0 m 67 ls [])) : W p l e R s m args below meth c H locs 0 0 Q (F0 m 4 ls []) := by
  have hx := hC.1.1
  have hb := hC.1.2.1
  have hown := hC.1.2.2.2.1
  have hts := hC.2.1
  have ho : cls 34 = 12 := rfl
  -- field 1, from 4
  refine lv_aload_n (k := 0) (i := 0) hx hb (dec_at okI_md 2 rfl) rfl (lv_at hl 0 rfl) ?_
  refine lv_iconst (n := 3) (v := 3) hx hb (dec_at okI_md 3 rfl) (by decide +kernel) ?_
  refine st_na hC hS hB hz (idx := 9) (ci := 12) (N := 71) (k := 1) (T := TX12) (kd := 3) (N' := 3) (t0 := 0) (dv := .int 0) (x := 3) (atype := .int) ho rfl (by decide) rfl (fun w => absurd w.2 (show ¬ 1 = 41 by decide)) (Or.inl ⟨rfl, rfl, rfl, rfl, rfl⟩) ps_12_34_2 (gk_1 47 rfl rfl) (gk_5 158 rfl rfl) (by decide +kernel) (by decide +kernel) (by decide +kernel) (Nat.le_of_ble_eq_true rfl) (Nat.le_trans (Nat.le_of_ble_eq_true rfl) hR.1) (Nat.le_trans (Nat.le_of_ble_eq_true rfl) hR.2.1) (dec_at okI_md 4 rfl) (dec_at okI_md 5 rfl) (fun H1 locs1 hB1 hz1 hf1 hS1 => ?_)
  clear hB hz hS hf1
  have hB : CB D z (pos (34, 0) + 2) 34 (addS Smd_0 1) (fnL (adZ z) cA ((34, 2) :: dmd_0)) H1 := hB1
  have hz : H1.size = z + (pos (34, 0) + 2) := hz1
  have hS := hS1
  clear hB1 hz1 hS1
  -- field 2, from 11
  refine lv_aload_n (k := 0) (i := 0) hx hb (dec_at okI_md 6 rfl) rfl (lv_at hl 0 rfl) ?_
  refine lv_bipush (n := 18) (v := 18) hx hb (dec_at okI_md 7 rfl) (by decide +kernel) ?_
  refine st_na hC hS hB hz (idx := 13) (ci := 12) (N := 71) (k := 2) (T := TX12) (kd := 3) (N' := 18) (t0 := 0) (dv := .int 0) (x := 18) (atype := .int) ho rfl (by decide) rfl (fun w => absurd w.2 (show ¬ 2 = 41 by decide)) (Or.inl ⟨rfl, rfl, rfl, rfl, rfl⟩) ps_12_34_3 (gk_1 47 rfl rfl) (gk_5 159 rfl rfl) (by decide +kernel) (by decide +kernel) (by decide +kernel) (Nat.le_of_ble_eq_true rfl) (Nat.le_trans (Nat.le_of_ble_eq_true rfl) hR.1) (Nat.le_trans (Nat.le_of_ble_eq_true rfl) hR.2.1) (dec_at okI_md 8 rfl) (dec_at okI_md 9 rfl) (fun H1 locs1 hB1 hz1 hf1 hS1 => ?_)
  clear hB hz hS hf1
  have hB : CB D z (pos (34, 0) + 3) 34 (addS (addS Smd_0 1) 2) (fnL (adZ z) cA ((34, 3) :: ((34, 2) :: dmd_0))) H1 := hB1
  have hz : H1.size = z + (pos (34, 0) + 3) := hz1
  have hS := hS1
  clear hB1 hz1 hS1
  -- field 3, from 19
  refine lv_aload_n (k := 0) (i := 0) hx hb (dec_at okI_md 10 rfl) rfl (lv_at hl 0 rfl) ?_
  refine lv_bipush (n := 12) (v := 12) hx hb (dec_at okI_md 11 rfl) (by decide +kernel) ?_
  refine st_na hC hS hB hz (idx := 16) (ci := 12) (N := 71) (k := 3) (T := TX12) (kd := 3) (N' := 12) (t0 := 0) (dv := .int 0) (x := 12) (atype := .int) ho rfl (by decide) rfl (fun w => absurd w.2 (show ¬ 3 = 41 by decide)) (Or.inl ⟨rfl, rfl, rfl, rfl, rfl⟩) ps_12_34_4 (gk_1 47 rfl rfl) (gk_5 160 rfl rfl) (by decide +kernel) (by decide +kernel) (by decide +kernel) (Nat.le_of_ble_eq_true rfl) (Nat.le_trans (Nat.le_of_ble_eq_true rfl) hR.1) (Nat.le_trans (Nat.le_of_ble_eq_true rfl) hR.2.1) (dec_at okI_md 12 rfl) (dec_at okI_md 13 rfl) (fun H1 locs1 hB1 hz1 hf1 hS1 => ?_)
  clear hB hz hS hf1
  have hB : CB D z (pos (34, 0) + 4) 34 (addS (addS (addS Smd_0 1) 2) 3) (fnL (adZ z) cA ((34, 4) :: ((34, 3) :: ((34, 2) :: dmd_0)))) H1 := hB1
  have hz : H1.size = z + (pos (34, 0) + 4) := hz1
  have hS := hS1
  clear hB1 hz1 hS1
  -- field 4, from 27
  refine lv_aload_n (k := 0) (i := 0) hx hb (dec_at okI_md 14 rfl) rfl (lv_at hl 0 rfl) ?_
  refine lv_bipush (n := 12) (v := 12) hx hb (dec_at okI_md 15 rfl) (by decide +kernel) ?_
  refine st_na hC hS hB hz (idx := 19) (ci := 12) (N := 71) (k := 4) (T := TX12) (kd := 3) (N' := 12) (t0 := 0) (dv := .int 0) (x := 12) (atype := .int) ho rfl (by decide) rfl (fun w => absurd w.2 (show ¬ 4 = 41 by decide)) (Or.inl ⟨rfl, rfl, rfl, rfl, rfl⟩) ps_12_34_5 (gk_1 47 rfl rfl) (gk_5 161 rfl rfl) (by decide +kernel) (by decide +kernel) (by decide +kernel) (Nat.le_of_ble_eq_true rfl) (Nat.le_trans (Nat.le_of_ble_eq_true rfl) hR.1) (Nat.le_trans (Nat.le_of_ble_eq_true rfl) hR.2.1) (dec_at okI_md 16 rfl) (dec_at okI_md 17 rfl) (fun H1 locs1 hB1 hz1 hf1 hS1 => ?_)
  clear hB hz hS hf1
  have hB : CB D z (pos (34, 0) + 5) 34 (addS (addS (addS (addS Smd_0 1) 2) 3) 4) (fnL (adZ z) cA ((34, 5) :: ((34, 4) :: ((34, 3) :: ((34, 2) :: dmd_0))))) H1 := hB1
  have hz : H1.size = z + (pos (34, 0) + 5) := hz1
  have hS := hS1
  clear hB1 hz1 hS1
  -- field 5, from 35
  refine lv_aload_n (k := 0) (i := 0) hx hb (dec_at okI_md 18 rfl) rfl (lv_at hl 0 rfl) ?_
  refine lv_bipush (n := 12) (v := 12) hx hb (dec_at okI_md 19 rfl) (by decide +kernel) ?_
  refine st_na hC hS hB hz (idx := 22) (ci := 12) (N := 71) (k := 5) (T := TX12) (kd := 3) (N' := 12) (t0 := 0) (dv := .int 0) (x := 12) (atype := .int) ho rfl (by decide) rfl (fun w => absurd w.2 (show ¬ 5 = 41 by decide)) (Or.inl ⟨rfl, rfl, rfl, rfl, rfl⟩) ps_12_34_6 (gk_1 47 rfl rfl) (gk_5 162 rfl rfl) (by decide +kernel) (by decide +kernel) (by decide +kernel) (Nat.le_of_ble_eq_true rfl) (Nat.le_trans (Nat.le_of_ble_eq_true rfl) hR.1) (Nat.le_trans (Nat.le_of_ble_eq_true rfl) hR.2.1) (dec_at okI_md 20 rfl) (dec_at okI_md 21 rfl) (fun H1 locs1 hB1 hz1 hf1 hS1 => ?_)
  clear hB hz hS hf1
  have hB : CB D z (pos (34, 0) + 6) 34 (addS (addS (addS (addS (addS Smd_0 1) 2) 3) 4) 5) (fnL (adZ z) cA ((34, 6) :: ((34, 5) :: ((34, 4) :: ((34, 3) :: ((34, 2) :: dmd_0)))))) H1 := hB1
  have hz : H1.size = z + (pos (34, 0) + 6) := hz1
  have hS := hS1
  clear hB1 hz1 hS1
  -- field 6, from 43
  refine lv_aload_n (k := 0) (i := 0) hx hb (dec_at okI_md 22 rfl) rfl (lv_at hl 0 rfl) ?_
  refine lv_bipush (n := 12) (v := 12) hx hb (dec_at okI_md 23 rfl) (by decide +kernel) ?_
  refine st_na hC hS hB hz (idx := 25) (ci := 12) (N := 71) (k := 6) (T := TX12) (kd := 3) (N' := 12) (t0 := 0) (dv := .int 0) (x := 12) (atype := .int) ho rfl (by decide) rfl (fun w => absurd w.2 (show ¬ 6 = 41 by decide)) (Or.inl ⟨rfl, rfl, rfl, rfl, rfl⟩) ps_12_34_7 (gk_1 47 rfl rfl) (gk_5 163 rfl rfl) (by decide +kernel) (by decide +kernel) (by decide +kernel) (Nat.le_of_ble_eq_true rfl) (Nat.le_trans (Nat.le_of_ble_eq_true rfl) hR.1) (Nat.le_trans (Nat.le_of_ble_eq_true rfl) hR.2.1) (dec_at okI_md 24 rfl) (dec_at okI_md 25 rfl) (fun H1 locs1 hB1 hz1 hf1 hS1 => ?_)
  clear hB hz hS hf1
  have hB : CB D z (pos (34, 0) + 7) 34 (addS (addS (addS (addS (addS (addS Smd_0 1) 2) 3) 4) 5) 6) (fnL (adZ z) cA ((34, 7) :: ((34, 6) :: ((34, 5) :: ((34, 4) :: ((34, 3) :: ((34, 2) :: dmd_0))))))) H1 := hB1
  have hz : H1.size = z + (pos (34, 0) + 7) := hz1
  have hS := hS1
  clear hB1 hz1 hS1
  -- field 7, from 51
  refine lv_aload_n (k := 0) (i := 0) hx hb (dec_at okI_md 26 rfl) rfl (lv_at hl 0 rfl) ?_
  refine lv_bipush (n := 16) (v := 16) hx hb (dec_at okI_md 27 rfl) (by decide +kernel) ?_
  refine st_na hC hS hB hz (idx := 28) (ci := 12) (N := 71) (k := 7) (T := TX12) (kd := 3) (N' := 16) (t0 := 0) (dv := .int 0) (x := 16) (atype := .int) ho rfl (by decide) rfl (fun w => absurd w.2 (show ¬ 7 = 41 by decide)) (Or.inl ⟨rfl, rfl, rfl, rfl, rfl⟩) ps_12_34_8 (gk_1 47 rfl rfl) (gk_5 164 rfl rfl) (by decide +kernel) (by decide +kernel) (by decide +kernel) (Nat.le_of_ble_eq_true rfl) (Nat.le_trans (Nat.le_of_ble_eq_true rfl) hR.1) (Nat.le_trans (Nat.le_of_ble_eq_true rfl) hR.2.1) (dec_at okI_md 28 rfl) (dec_at okI_md 29 rfl) (fun H1 locs1 hB1 hz1 hf1 hS1 => ?_)
  clear hB hz hS hf1
  have hB : CB D z (pos (34, 0) + 8) 34 (addS (addS (addS (addS (addS (addS (addS Smd_0 1) 2) 3) 4) 5) 6) 7) (fnL (adZ z) cA ((34, 8) :: ((34, 7) :: ((34, 6) :: ((34, 5) :: ((34, 4) :: ((34, 3) :: ((34, 2) :: dmd_0)))))))) H1 := hB1
  have hz : H1.size = z + (pos (34, 0) + 8) := hz1
  have hS := hS1
  clear hB1 hz1 hS1
  -- field 8, from 59
  refine lv_aload_n (k := 0) (i := 0) hx hb (dec_at okI_md 30 rfl) rfl (lv_at hl 0 rfl) ?_
  refine lv_bipush (n := 16) (v := 16) hx hb (dec_at okI_md 31 rfl) (by decide +kernel) ?_
  refine st_na hC hS hB hz (idx := 31) (ci := 12) (N := 71) (k := 8) (T := TX12) (kd := 3) (N' := 16) (t0 := 0) (dv := .int 0) (x := 16) (atype := .int) ho rfl (by decide) rfl (fun w => absurd w.2 (show ¬ 8 = 41 by decide)) (Or.inl ⟨rfl, rfl, rfl, rfl, rfl⟩) ps_12_34_9 (gk_1 47 rfl rfl) (gk_5 165 rfl rfl) (by decide +kernel) (by decide +kernel) (by decide +kernel) (Nat.le_of_ble_eq_true rfl) (Nat.le_trans (Nat.le_of_ble_eq_true rfl) hR.1) (Nat.le_trans (Nat.le_of_ble_eq_true rfl) hR.2.1) (dec_at okI_md 32 rfl) (dec_at okI_md 33 rfl) (fun H1 locs1 hB1 hz1 hf1 hS1 => ?_)
  clear hB hz hS hf1
  have hB : CB D z (pos (34, 0) + 9) 34 (addS (addS (addS (addS (addS (addS (addS (addS Smd_0 1) 2) 3) 4) 5) 6) 7) 8) (fnL (adZ z) cA ((34, 9) :: ((34, 8) :: ((34, 7) :: ((34, 6) :: ((34, 5) :: ((34, 4) :: ((34, 3) :: ((34, 2) :: dmd_0))))))))) H1 := hB1
  have hz : H1.size = z + (pos (34, 0) + 9) := hz1
  have hS := hS1
  clear hB1 hz1 hS1
  exact kk _ _ hB hz hS
def Smd_2 : Nat → Bool := (addS (addS (addS (addS (addS (addS (addS (addS Smd_1 9) 10) 11) 12) 13) 14) 15) 16)
def dmd_2 : List (Nat × Nat) := ((34, 17) :: ((34, 16) :: ((34, 15) :: ((34, 14) :: ((34, 13) :: ((34, 12) :: ((34, 11) :: ((34, 10) :: dmd_1))))))))
set_option maxHeartbeats 4000000 in
set_option maxRecDepth 100000 in
theorem c_md_2 {p : Program} {l : Launch} {e : Env} {R : Room} {s : State} {m : MethodId} {args : Array Value} {below : List Frame} {meth : Method} {c : Code} {H : Heap} {locs : List Loc} {Q : State → Prop} {ls : Array Slot} {D : va_G} {cA : Nat → ClassId} {z : Nat} (hC : CIc p s m args meth c cX12_init 1 D cA RX12) (hex : exN s) (hR : 56 ≤ R.cells ∧ 151197 ≤ R.slots ∧ 1 ≤ R.frames ∧ 40 ≤ R.locals) (hS : va_S (fun q => z + pos (34, 0) ≤ q) s.heap H locs) (hB : CB D z (pos (34, 0) + 9) 34 Smd_1 (fnL (adZ z) cA dmd_1) H) (hz : H.size = z + (pos (34, 0) + 9)) (hl : lv_has ls 1 [(0, .ref (z + pos (34, 0)))])
    (kk : ∀ (H1 : Heap) (locs1 : List Loc), CB D z (pos (34, 0) + 17) 34 Smd_2 (fnL (adZ z) cA dmd_2) H1 → H1.size = z + (pos (34, 0) + 17) → va_S (fun q => z + pos (34, 0) ≤ q) s.heap H1 locs1 → W p l e R s m args below meth c H1 locs1 16 181 Q (F0 m 131 ls [])) : W p l e R s m args below meth c H locs 8 101 Q (F0 m 67 ls []) := by
  have hx := hC.1.1
  have hb := hC.1.2.1
  have hown := hC.1.2.2.2.1
  have hts := hC.2.1
  have ho : cls 34 = 12 := rfl
  -- field 9, from 67
  refine lv_aload_n (k := 0) (i := 0) hx hb (dec_at okI_md 34 rfl) rfl (lv_at hl 0 rfl) ?_
  refine lv_bipush (n := 8) (v := 8) hx hb (dec_at okI_md 35 rfl) (by decide +kernel) ?_
  refine st_na hC hS hB hz (idx := 34) (ci := 12) (N := 71) (k := 9) (T := TX12) (kd := 3) (N' := 8) (t0 := 0) (dv := .int 0) (x := 8) (atype := .int) ho rfl (by decide) rfl (fun w => absurd w.2 (show ¬ 9 = 41 by decide)) (Or.inl ⟨rfl, rfl, rfl, rfl, rfl⟩) ps_12_34_10 (gk_1 47 rfl rfl) (gk_5 166 rfl rfl) (by decide +kernel) (by decide +kernel) (by decide +kernel) (Nat.le_of_ble_eq_true rfl) (Nat.le_trans (Nat.le_of_ble_eq_true rfl) hR.1) (Nat.le_trans (Nat.le_of_ble_eq_true rfl) hR.2.1) (dec_at okI_md 36 rfl) (dec_at okI_md 37 rfl) (fun H1 locs1 hB1 hz1 hf1 hS1 => ?_)
  clear hB hz hS hf1
  have hB : CB D z (pos (34, 0) + 10) 34 (addS Smd_1 9) (fnL (adZ z) cA ((34, 10) :: dmd_1)) H1 := hB1
  have hz : H1.size = z + (pos (34, 0) + 10) := hz1
  have hS := hS1
  clear hB1 hz1 hS1
  -- field 10, from 75
  refine lv_aload_n (k := 0) (i := 0) hx hb (dec_at okI_md 38 rfl) rfl (lv_at hl 0 rfl) ?_
  refine lv_bipush (n := 8) (v := 8) hx hb (dec_at okI_md 39 rfl) (by decide +kernel) ?_
  refine st_na hC hS hB hz (idx := 37) (ci := 12) (N := 71) (k := 10) (T := TX12) (kd := 3) (N' := 8) (t0 := 0) (dv := .int 0) (x := 8) (atype := .int) ho rfl (by decide) rfl (fun w => absurd w.2 (show ¬ 10 = 41 by decide)) (Or.inl ⟨rfl, rfl, rfl, rfl, rfl⟩) ps_12_34_11 (gk_1 47 rfl rfl) (gk_5 167 rfl rfl) (by decide +kernel) (by decide +kernel) (by decide +kernel) (Nat.le_of_ble_eq_true rfl) (Nat.le_trans (Nat.le_of_ble_eq_true rfl) hR.1) (Nat.le_trans (Nat.le_of_ble_eq_true rfl) hR.2.1) (dec_at okI_md 40 rfl) (dec_at okI_md 41 rfl) (fun H1 locs1 hB1 hz1 hf1 hS1 => ?_)
  clear hB hz hS hf1
  have hB : CB D z (pos (34, 0) + 11) 34 (addS (addS Smd_1 9) 10) (fnL (adZ z) cA ((34, 11) :: ((34, 10) :: dmd_1))) H1 := hB1
  have hz : H1.size = z + (pos (34, 0) + 11) := hz1
  have hS := hS1
  clear hB1 hz1 hS1
  -- field 11, from 83
  refine lv_aload_n (k := 0) (i := 0) hx hb (dec_at okI_md 42 rfl) rfl (lv_at hl 0 rfl) ?_
  refine lv_bipush (n := 8) (v := 8) hx hb (dec_at okI_md 43 rfl) (by decide +kernel) ?_
  refine st_na hC hS hB hz (idx := 40) (ci := 12) (N := 71) (k := 11) (T := TX12) (kd := 3) (N' := 8) (t0 := 0) (dv := .int 0) (x := 8) (atype := .int) ho rfl (by decide) rfl (fun w => absurd w.2 (show ¬ 11 = 41 by decide)) (Or.inl ⟨rfl, rfl, rfl, rfl, rfl⟩) ps_12_34_12 (gk_1 47 rfl rfl) (gk_5 168 rfl rfl) (by decide +kernel) (by decide +kernel) (by decide +kernel) (Nat.le_of_ble_eq_true rfl) (Nat.le_trans (Nat.le_of_ble_eq_true rfl) hR.1) (Nat.le_trans (Nat.le_of_ble_eq_true rfl) hR.2.1) (dec_at okI_md 44 rfl) (dec_at okI_md 45 rfl) (fun H1 locs1 hB1 hz1 hf1 hS1 => ?_)
  clear hB hz hS hf1
  have hB : CB D z (pos (34, 0) + 12) 34 (addS (addS (addS Smd_1 9) 10) 11) (fnL (adZ z) cA ((34, 12) :: ((34, 11) :: ((34, 10) :: dmd_1)))) H1 := hB1
  have hz : H1.size = z + (pos (34, 0) + 12) := hz1
  have hS := hS1
  clear hB1 hz1 hS1
  -- field 12, from 91
  refine lv_aload_n (k := 0) (i := 0) hx hb (dec_at okI_md 46 rfl) rfl (lv_at hl 0 rfl) ?_
  refine lv_bipush (n := 8) (v := 8) hx hb (dec_at okI_md 47 rfl) (by decide +kernel) ?_
  refine st_na hC hS hB hz (idx := 43) (ci := 12) (N := 71) (k := 12) (T := TX12) (kd := 3) (N' := 8) (t0 := 0) (dv := .int 0) (x := 8) (atype := .int) ho rfl (by decide) rfl (fun w => absurd w.2 (show ¬ 12 = 41 by decide)) (Or.inl ⟨rfl, rfl, rfl, rfl, rfl⟩) ps_12_34_13 (gk_1 47 rfl rfl) (gk_5 169 rfl rfl) (by decide +kernel) (by decide +kernel) (by decide +kernel) (Nat.le_of_ble_eq_true rfl) (Nat.le_trans (Nat.le_of_ble_eq_true rfl) hR.1) (Nat.le_trans (Nat.le_of_ble_eq_true rfl) hR.2.1) (dec_at okI_md 48 rfl) (dec_at okI_md 49 rfl) (fun H1 locs1 hB1 hz1 hf1 hS1 => ?_)
  clear hB hz hS hf1
  have hB : CB D z (pos (34, 0) + 13) 34 (addS (addS (addS (addS Smd_1 9) 10) 11) 12) (fnL (adZ z) cA ((34, 13) :: ((34, 12) :: ((34, 11) :: ((34, 10) :: dmd_1))))) H1 := hB1
  have hz : H1.size = z + (pos (34, 0) + 13) := hz1
  have hS := hS1
  clear hB1 hz1 hS1
  -- field 13, from 99
  refine lv_aload_n (k := 0) (i := 0) hx hb (dec_at okI_md 50 rfl) rfl (lv_at hl 0 rfl) ?_
  refine lv_bipush (n := 12) (v := 12) hx hb (dec_at okI_md 51 rfl) (by decide +kernel) ?_
  refine st_na hC hS hB hz (idx := 46) (ci := 12) (N := 71) (k := 13) (T := TX12) (kd := 3) (N' := 12) (t0 := 0) (dv := .int 0) (x := 12) (atype := .int) ho rfl (by decide) rfl (fun w => absurd w.2 (show ¬ 13 = 41 by decide)) (Or.inl ⟨rfl, rfl, rfl, rfl, rfl⟩) ps_12_34_14 (gk_1 47 rfl rfl) (gk_5 170 rfl rfl) (by decide +kernel) (by decide +kernel) (by decide +kernel) (Nat.le_of_ble_eq_true rfl) (Nat.le_trans (Nat.le_of_ble_eq_true rfl) hR.1) (Nat.le_trans (Nat.le_of_ble_eq_true rfl) hR.2.1) (dec_at okI_md 52 rfl) (dec_at okI_md 53 rfl) (fun H1 locs1 hB1 hz1 hf1 hS1 => ?_)
  clear hB hz hS hf1
  have hB : CB D z (pos (34, 0) + 14) 34 (addS (addS (addS (addS (addS Smd_1 9) 10) 11) 12) 13) (fnL (adZ z) cA ((34, 14) :: ((34, 13) :: ((34, 12) :: ((34, 11) :: ((34, 10) :: dmd_1)))))) H1 := hB1
  have hz : H1.size = z + (pos (34, 0) + 14) := hz1
  have hS := hS1
  clear hB1 hz1 hS1
  -- field 14, from 107
  refine lv_aload_n (k := 0) (i := 0) hx hb (dec_at okI_md 54 rfl) rfl (lv_at hl 0 rfl) ?_
  refine lv_bipush (n := 12) (v := 12) hx hb (dec_at okI_md 55 rfl) (by decide +kernel) ?_
  refine st_na hC hS hB hz (idx := 49) (ci := 12) (N := 71) (k := 14) (T := TX12) (kd := 3) (N' := 12) (t0 := 0) (dv := .int 0) (x := 12) (atype := .int) ho rfl (by decide) rfl (fun w => absurd w.2 (show ¬ 14 = 41 by decide)) (Or.inl ⟨rfl, rfl, rfl, rfl, rfl⟩) ps_12_34_15 (gk_1 47 rfl rfl) (gk_5 171 rfl rfl) (by decide +kernel) (by decide +kernel) (by decide +kernel) (Nat.le_of_ble_eq_true rfl) (Nat.le_trans (Nat.le_of_ble_eq_true rfl) hR.1) (Nat.le_trans (Nat.le_of_ble_eq_true rfl) hR.2.1) (dec_at okI_md 56 rfl) (dec_at okI_md 57 rfl) (fun H1 locs1 hB1 hz1 hf1 hS1 => ?_)
  clear hB hz hS hf1
  have hB : CB D z (pos (34, 0) + 15) 34 (addS (addS (addS (addS (addS (addS Smd_1 9) 10) 11) 12) 13) 14) (fnL (adZ z) cA ((34, 15) :: ((34, 14) :: ((34, 13) :: ((34, 12) :: ((34, 11) :: ((34, 10) :: dmd_1))))))) H1 := hB1
  have hz : H1.size = z + (pos (34, 0) + 15) := hz1
  have hS := hS1
  clear hB1 hz1 hS1
  -- field 15, from 115
  refine lv_aload_n (k := 0) (i := 0) hx hb (dec_at okI_md 58 rfl) rfl (lv_at hl 0 rfl) ?_
  refine lv_bipush (n := 12) (v := 12) hx hb (dec_at okI_md 59 rfl) (by decide +kernel) ?_
  refine st_na hC hS hB hz (idx := 52) (ci := 12) (N := 71) (k := 15) (T := TX12) (kd := 3) (N' := 12) (t0 := 0) (dv := .int 0) (x := 12) (atype := .int) ho rfl (by decide) rfl (fun w => absurd w.2 (show ¬ 15 = 41 by decide)) (Or.inl ⟨rfl, rfl, rfl, rfl, rfl⟩) ps_12_34_16 (gk_1 47 rfl rfl) (gk_5 172 rfl rfl) (by decide +kernel) (by decide +kernel) (by decide +kernel) (Nat.le_of_ble_eq_true rfl) (Nat.le_trans (Nat.le_of_ble_eq_true rfl) hR.1) (Nat.le_trans (Nat.le_of_ble_eq_true rfl) hR.2.1) (dec_at okI_md 60 rfl) (dec_at okI_md 61 rfl) (fun H1 locs1 hB1 hz1 hf1 hS1 => ?_)
  clear hB hz hS hf1
  have hB : CB D z (pos (34, 0) + 16) 34 (addS (addS (addS (addS (addS (addS (addS Smd_1 9) 10) 11) 12) 13) 14) 15) (fnL (adZ z) cA ((34, 16) :: ((34, 15) :: ((34, 14) :: ((34, 13) :: ((34, 12) :: ((34, 11) :: ((34, 10) :: dmd_1)))))))) H1 := hB1
  have hz : H1.size = z + (pos (34, 0) + 16) := hz1
  have hS := hS1
  clear hB1 hz1 hS1
  -- field 16, from 123
  refine lv_aload_n (k := 0) (i := 0) hx hb (dec_at okI_md 62 rfl) rfl (lv_at hl 0 rfl) ?_
  refine lv_bipush (n := 12) (v := 12) hx hb (dec_at okI_md 63 rfl) (by decide +kernel) ?_
  refine st_na hC hS hB hz (idx := 55) (ci := 12) (N := 71) (k := 16) (T := TX12) (kd := 3) (N' := 12) (t0 := 0) (dv := .int 0) (x := 12) (atype := .int) ho rfl (by decide) rfl (fun w => absurd w.2 (show ¬ 16 = 41 by decide)) (Or.inl ⟨rfl, rfl, rfl, rfl, rfl⟩) ps_12_34_17 (gk_1 47 rfl rfl) (gk_5 173 rfl rfl) (by decide +kernel) (by decide +kernel) (by decide +kernel) (Nat.le_of_ble_eq_true rfl) (Nat.le_trans (Nat.le_of_ble_eq_true rfl) hR.1) (Nat.le_trans (Nat.le_of_ble_eq_true rfl) hR.2.1) (dec_at okI_md 64 rfl) (dec_at okI_md 65 rfl) (fun H1 locs1 hB1 hz1 hf1 hS1 => ?_)
  clear hB hz hS hf1
  have hB : CB D z (pos (34, 0) + 17) 34 (addS (addS (addS (addS (addS (addS (addS (addS Smd_1 9) 10) 11) 12) 13) 14) 15) 16) (fnL (adZ z) cA ((34, 17) :: ((34, 16) :: ((34, 15) :: ((34, 14) :: ((34, 13) :: ((34, 12) :: ((34, 11) :: ((34, 10) :: dmd_1))))))))) H1 := hB1
  have hz : H1.size = z + (pos (34, 0) + 17) := hz1
  have hS := hS1
  clear hB1 hz1 hS1
  exact kk _ _ hB hz hS
def Smd_3 : Nat → Bool := (addS (addS (addS (addS (addS (addS (addS (addS Smd_2 17) 18) 19) 20) 21) 22) 23) 24)
def dmd_3 : List (Nat × Nat) := ((34, 25) :: ((34, 24) :: ((34, 23) :: ((34, 22) :: ((34, 21) :: ((34, 20) :: ((34, 19) :: ((34, 18) :: dmd_2))))))))
set_option maxHeartbeats 4000000 in
set_option maxRecDepth 100000 in
theorem c_md_3 {p : Program} {l : Launch} {e : Env} {R : Room} {s : State} {m : MethodId} {args : Array Value} {below : List Frame} {meth : Method} {c : Code} {H : Heap} {locs : List Loc} {Q : State → Prop} {ls : Array Slot} {D : va_G} {cA : Nat → ClassId} {z : Nat} (hC : CIc p s m args meth c cX12_init 1 D cA RX12) (hex : exN s) (hR : 56 ≤ R.cells ∧ 151197 ≤ R.slots ∧ 1 ≤ R.frames ∧ 40 ≤ R.locals) (hS : va_S (fun q => z + pos (34, 0) ≤ q) s.heap H locs) (hB : CB D z (pos (34, 0) + 17) 34 Smd_2 (fnL (adZ z) cA dmd_2) H) (hz : H.size = z + (pos (34, 0) + 17)) (hl : lv_has ls 1 [(0, .ref (z + pos (34, 0)))])
    (kk : ∀ (H1 : Heap) (locs1 : List Loc), CB D z (pos (34, 0) + 25) 34 Smd_3 (fnL (adZ z) cA dmd_3) H1 → H1.size = z + (pos (34, 0) + 25) → va_S (fun q => z + pos (34, 0) ≤ q) s.heap H1 locs1 → W p l e R s m args below meth c H1 locs1 24 267 Q (F0 m 195 ls [])) : W p l e R s m args below meth c H locs 16 181 Q (F0 m 131 ls []) := by
  have hx := hC.1.1
  have hb := hC.1.2.1
  have hown := hC.1.2.2.2.1
  have hts := hC.2.1
  have ho : cls 34 = 12 := rfl
  -- field 17, from 131
  refine lv_aload_n (k := 0) (i := 0) hx hb (dec_at okI_md 66 rfl) rfl (lv_at hl 0 rfl) ?_
  refine lv_bipush (n := 16) (v := 16) hx hb (dec_at okI_md 67 rfl) (by decide +kernel) ?_
  refine st_na hC hS hB hz (idx := 58) (ci := 12) (N := 71) (k := 17) (T := TX12) (kd := 3) (N' := 16) (t0 := 0) (dv := .int 0) (x := 16) (atype := .int) ho rfl (by decide) rfl (fun w => absurd w.2 (show ¬ 17 = 41 by decide)) (Or.inl ⟨rfl, rfl, rfl, rfl, rfl⟩) ps_12_34_18 (gk_1 47 rfl rfl) (gk_5 174 rfl rfl) (by decide +kernel) (by decide +kernel) (by decide +kernel) (Nat.le_of_ble_eq_true rfl) (Nat.le_trans (Nat.le_of_ble_eq_true rfl) hR.1) (Nat.le_trans (Nat.le_of_ble_eq_true rfl) hR.2.1) (dec_at okI_md 68 rfl) (dec_at okI_md 69 rfl) (fun H1 locs1 hB1 hz1 hf1 hS1 => ?_)
  clear hB hz hS hf1
  have hB : CB D z (pos (34, 0) + 18) 34 (addS Smd_2 17) (fnL (adZ z) cA ((34, 18) :: dmd_2)) H1 := hB1
  have hz : H1.size = z + (pos (34, 0) + 18) := hz1
  have hS := hS1
  clear hB1 hz1 hS1
  -- field 18, from 139
  refine lv_aload_n (k := 0) (i := 0) hx hb (dec_at okI_md 70 rfl) rfl (lv_at hl 0 rfl) ?_
  refine lv_bipush (n := 16) (v := 16) hx hb (dec_at okI_md 71 rfl) (by decide +kernel) ?_
  refine st_na hC hS hB hz (idx := 61) (ci := 12) (N := 71) (k := 18) (T := TX12) (kd := 3) (N' := 16) (t0 := 0) (dv := .int 0) (x := 16) (atype := .int) ho rfl (by decide) rfl (fun w => absurd w.2 (show ¬ 18 = 41 by decide)) (Or.inl ⟨rfl, rfl, rfl, rfl, rfl⟩) ps_12_34_19 (gk_1 47 rfl rfl) (gk_5 175 rfl rfl) (by decide +kernel) (by decide +kernel) (by decide +kernel) (Nat.le_of_ble_eq_true rfl) (Nat.le_trans (Nat.le_of_ble_eq_true rfl) hR.1) (Nat.le_trans (Nat.le_of_ble_eq_true rfl) hR.2.1) (dec_at okI_md 72 rfl) (dec_at okI_md 73 rfl) (fun H1 locs1 hB1 hz1 hf1 hS1 => ?_)
  clear hB hz hS hf1
  have hB : CB D z (pos (34, 0) + 19) 34 (addS (addS Smd_2 17) 18) (fnL (adZ z) cA ((34, 19) :: ((34, 18) :: dmd_2))) H1 := hB1
  have hz : H1.size = z + (pos (34, 0) + 19) := hz1
  have hS := hS1
  clear hB1 hz1 hS1
  -- field 19, from 147
  refine lv_aload_n (k := 0) (i := 0) hx hb (dec_at okI_md 74 rfl) rfl (lv_at hl 0 rfl) ?_
  refine lv_bipush (n := 8) (v := 8) hx hb (dec_at okI_md 75 rfl) (by decide +kernel) ?_
  refine st_na hC hS hB hz (idx := 64) (ci := 12) (N := 71) (k := 19) (T := TX12) (kd := 3) (N' := 8) (t0 := 0) (dv := .int 0) (x := 8) (atype := .int) ho rfl (by decide) rfl (fun w => absurd w.2 (show ¬ 19 = 41 by decide)) (Or.inl ⟨rfl, rfl, rfl, rfl, rfl⟩) ps_12_34_20 (gk_1 47 rfl rfl) (gk_5 176 rfl rfl) (by decide +kernel) (by decide +kernel) (by decide +kernel) (Nat.le_of_ble_eq_true rfl) (Nat.le_trans (Nat.le_of_ble_eq_true rfl) hR.1) (Nat.le_trans (Nat.le_of_ble_eq_true rfl) hR.2.1) (dec_at okI_md 76 rfl) (dec_at okI_md 77 rfl) (fun H1 locs1 hB1 hz1 hf1 hS1 => ?_)
  clear hB hz hS hf1
  have hB : CB D z (pos (34, 0) + 20) 34 (addS (addS (addS Smd_2 17) 18) 19) (fnL (adZ z) cA ((34, 20) :: ((34, 19) :: ((34, 18) :: dmd_2)))) H1 := hB1
  have hz : H1.size = z + (pos (34, 0) + 20) := hz1
  have hS := hS1
  clear hB1 hz1 hS1
  -- field 20, from 155
  refine lv_aload_n (k := 0) (i := 0) hx hb (dec_at okI_md 78 rfl) rfl (lv_at hl 0 rfl) ?_
  refine lv_bipush (n := 8) (v := 8) hx hb (dec_at okI_md 79 rfl) (by decide +kernel) ?_
  refine st_na hC hS hB hz (idx := 67) (ci := 12) (N := 71) (k := 20) (T := TX12) (kd := 3) (N' := 8) (t0 := 0) (dv := .int 0) (x := 8) (atype := .int) ho rfl (by decide) rfl (fun w => absurd w.2 (show ¬ 20 = 41 by decide)) (Or.inl ⟨rfl, rfl, rfl, rfl, rfl⟩) ps_12_34_21 (gk_1 47 rfl rfl) (gk_5 177 rfl rfl) (by decide +kernel) (by decide +kernel) (by decide +kernel) (Nat.le_of_ble_eq_true rfl) (Nat.le_trans (Nat.le_of_ble_eq_true rfl) hR.1) (Nat.le_trans (Nat.le_of_ble_eq_true rfl) hR.2.1) (dec_at okI_md 80 rfl) (dec_at okI_md 81 rfl) (fun H1 locs1 hB1 hz1 hf1 hS1 => ?_)
  clear hB hz hS hf1
  have hB : CB D z (pos (34, 0) + 21) 34 (addS (addS (addS (addS Smd_2 17) 18) 19) 20) (fnL (adZ z) cA ((34, 21) :: ((34, 20) :: ((34, 19) :: ((34, 18) :: dmd_2))))) H1 := hB1
  have hz : H1.size = z + (pos (34, 0) + 21) := hz1
  have hS := hS1
  clear hB1 hz1 hS1
  -- field 21, from 163
  refine lv_aload_n (k := 0) (i := 0) hx hb (dec_at okI_md 82 rfl) rfl (lv_at hl 0 rfl) ?_
  refine lv_bipush (n := 8) (v := 8) hx hb (dec_at okI_md 83 rfl) (by decide +kernel) ?_
  refine st_na hC hS hB hz (idx := 70) (ci := 12) (N := 71) (k := 21) (T := TX12) (kd := 3) (N' := 8) (t0 := 0) (dv := .int 0) (x := 8) (atype := .int) ho rfl (by decide) rfl (fun w => absurd w.2 (show ¬ 21 = 41 by decide)) (Or.inl ⟨rfl, rfl, rfl, rfl, rfl⟩) ps_12_34_22 (gk_1 47 rfl rfl) (gk_5 178 rfl rfl) (by decide +kernel) (by decide +kernel) (by decide +kernel) (Nat.le_of_ble_eq_true rfl) (Nat.le_trans (Nat.le_of_ble_eq_true rfl) hR.1) (Nat.le_trans (Nat.le_of_ble_eq_true rfl) hR.2.1) (dec_at okI_md 84 rfl) (dec_at okI_md 85 rfl) (fun H1 locs1 hB1 hz1 hf1 hS1 => ?_)
  clear hB hz hS hf1
  have hB : CB D z (pos (34, 0) + 22) 34 (addS (addS (addS (addS (addS Smd_2 17) 18) 19) 20) 21) (fnL (adZ z) cA ((34, 22) :: ((34, 21) :: ((34, 20) :: ((34, 19) :: ((34, 18) :: dmd_2)))))) H1 := hB1
  have hz : H1.size = z + (pos (34, 0) + 22) := hz1
  have hS := hS1
  clear hB1 hz1 hS1
  -- field 22, from 171
  refine lv_aload_n (k := 0) (i := 0) hx hb (dec_at okI_md 86 rfl) rfl (lv_at hl 0 rfl) ?_
  refine lv_bipush (n := 10) (v := 10) hx hb (dec_at okI_md 87 rfl) (by decide +kernel) ?_
  refine st_na hC hS hB hz (idx := 73) (ci := 12) (N := 71) (k := 22) (T := TX12) (kd := 3) (N' := 10) (t0 := 0) (dv := .int 0) (x := 10) (atype := .int) ho rfl (by decide) rfl (fun w => absurd w.2 (show ¬ 22 = 41 by decide)) (Or.inl ⟨rfl, rfl, rfl, rfl, rfl⟩) ps_12_34_23 (gk_1 47 rfl rfl) (gk_5 179 rfl rfl) (by decide +kernel) (by decide +kernel) (by decide +kernel) (Nat.le_of_ble_eq_true rfl) (Nat.le_trans (Nat.le_of_ble_eq_true rfl) hR.1) (Nat.le_trans (Nat.le_of_ble_eq_true rfl) hR.2.1) (dec_at okI_md 88 rfl) (dec_at okI_md 89 rfl) (fun H1 locs1 hB1 hz1 hf1 hS1 => ?_)
  clear hB hz hS hf1
  have hB : CB D z (pos (34, 0) + 23) 34 (addS (addS (addS (addS (addS (addS Smd_2 17) 18) 19) 20) 21) 22) (fnL (adZ z) cA ((34, 23) :: ((34, 22) :: ((34, 21) :: ((34, 20) :: ((34, 19) :: ((34, 18) :: dmd_2))))))) H1 := hB1
  have hz : H1.size = z + (pos (34, 0) + 23) := hz1
  have hS := hS1
  clear hB1 hz1 hS1
  -- field 23, from 179
  refine lv_aload_n (k := 0) (i := 0) hx hb (dec_at okI_md 90 rfl) rfl (lv_at hl 0 rfl) ?_
  refine lv_bipush (n := 10) (v := 10) hx hb (dec_at okI_md 91 rfl) (by decide +kernel) ?_
  refine st_na hC hS hB hz (idx := 76) (ci := 12) (N := 71) (k := 23) (T := TX12) (kd := 3) (N' := 10) (t0 := 0) (dv := .int 0) (x := 10) (atype := .int) ho rfl (by decide) rfl (fun w => absurd w.2 (show ¬ 23 = 41 by decide)) (Or.inl ⟨rfl, rfl, rfl, rfl, rfl⟩) ps_12_34_24 (gk_1 47 rfl rfl) (gk_5 180 rfl rfl) (by decide +kernel) (by decide +kernel) (by decide +kernel) (Nat.le_of_ble_eq_true rfl) (Nat.le_trans (Nat.le_of_ble_eq_true rfl) hR.1) (Nat.le_trans (Nat.le_of_ble_eq_true rfl) hR.2.1) (dec_at okI_md 92 rfl) (dec_at okI_md 93 rfl) (fun H1 locs1 hB1 hz1 hf1 hS1 => ?_)
  clear hB hz hS hf1
  have hB : CB D z (pos (34, 0) + 24) 34 (addS (addS (addS (addS (addS (addS (addS Smd_2 17) 18) 19) 20) 21) 22) 23) (fnL (adZ z) cA ((34, 24) :: ((34, 23) :: ((34, 22) :: ((34, 21) :: ((34, 20) :: ((34, 19) :: ((34, 18) :: dmd_2)))))))) H1 := hB1
  have hz : H1.size = z + (pos (34, 0) + 24) := hz1
  have hS := hS1
  clear hB1 hz1 hS1
  -- field 24, from 187
  refine lv_aload_n (k := 0) (i := 0) hx hb (dec_at okI_md 94 rfl) rfl (lv_at hl 0 rfl) ?_
  refine lv_bipush (n := 10) (v := 10) hx hb (dec_at okI_md 95 rfl) (by decide +kernel) ?_
  refine st_na hC hS hB hz (idx := 79) (ci := 12) (N := 71) (k := 24) (T := TX12) (kd := 3) (N' := 10) (t0 := 0) (dv := .int 0) (x := 10) (atype := .int) ho rfl (by decide) rfl (fun w => absurd w.2 (show ¬ 24 = 41 by decide)) (Or.inl ⟨rfl, rfl, rfl, rfl, rfl⟩) ps_12_34_25 (gk_1 47 rfl rfl) (gk_5 181 rfl rfl) (by decide +kernel) (by decide +kernel) (by decide +kernel) (Nat.le_of_ble_eq_true rfl) (Nat.le_trans (Nat.le_of_ble_eq_true rfl) hR.1) (Nat.le_trans (Nat.le_of_ble_eq_true rfl) hR.2.1) (dec_at okI_md 96 rfl) (dec_at okI_md 97 rfl) (fun H1 locs1 hB1 hz1 hf1 hS1 => ?_)
  clear hB hz hS hf1
  have hB : CB D z (pos (34, 0) + 25) 34 (addS (addS (addS (addS (addS (addS (addS (addS Smd_2 17) 18) 19) 20) 21) 22) 23) 24) (fnL (adZ z) cA ((34, 25) :: ((34, 24) :: ((34, 23) :: ((34, 22) :: ((34, 21) :: ((34, 20) :: ((34, 19) :: ((34, 18) :: dmd_2))))))))) H1 := hB1
  have hz : H1.size = z + (pos (34, 0) + 25) := hz1
  have hS := hS1
  clear hB1 hz1 hS1
  exact kk _ _ hB hz hS
def Smd_4 : Nat → Bool := (addS (addS (addS (addS (addS (addS (addS (addS Smd_3 25) 26) 27) 28) 29) 30) 31) 41)
def dmd_4 : List (Nat × Nat) := ((34, 32) :: ((34, 31) :: ((34, 30) :: ((34, 29) :: ((34, 28) :: ((34, 27) :: ((34, 26) :: dmd_3)))))))
set_option maxHeartbeats 4000000 in
set_option maxRecDepth 100000 in
theorem c_md_4 {p : Program} {l : Launch} {e : Env} {R : Room} {s : State} {m : MethodId} {args : Array Value} {below : List Frame} {meth : Method} {c : Code} {H : Heap} {locs : List Loc} {Q : State → Prop} {ls : Array Slot} {D : va_G} {cA : Nat → ClassId} {z : Nat} (hC : CIc p s m args meth c cX12_init 1 D cA RX12) (hex : exN s) (hR : 56 ≤ R.cells ∧ 151197 ≤ R.slots ∧ 1 ≤ R.frames ∧ 40 ≤ R.locals) (hS : va_S (fun q => z + pos (34, 0) ≤ q) s.heap H locs) (hB : CB D z (pos (34, 0) + 25) 34 Smd_3 (fnL (adZ z) cA dmd_3) H) (hz : H.size = z + (pos (34, 0) + 25)) (hl : lv_has ls 1 [(0, .ref (z + pos (34, 0)))])
    (kk : ∀ (H1 : Heap) (locs1 : List Loc), CB D z (pos (34, 0) + 32) 34 Smd_4 (fnL (adZ z) cA dmd_4) H1 → H1.size = z + (pos (34, 0) + 32) → va_S (fun q => z + pos (34, 0) ≤ q) s.heap H1 locs1 → W p l e R s m args below meth c H1 locs1 31 345 Q (F0 m 255 ls [])) : W p l e R s m args below meth c H locs 24 267 Q (F0 m 195 ls []) := by
  have hx := hC.1.1
  have hb := hC.1.2.1
  have hown := hC.1.2.2.2.1
  have hts := hC.2.1
  have ho : cls 34 = 12 := rfl
  -- field 25, from 195
  refine lv_aload_n (k := 0) (i := 0) hx hb (dec_at okI_md 98 rfl) rfl (lv_at hl 0 rfl) ?_
  refine lv_bipush (n := 10) (v := 10) hx hb (dec_at okI_md 99 rfl) (by decide +kernel) ?_
  refine st_na hC hS hB hz (idx := 82) (ci := 12) (N := 71) (k := 25) (T := TX12) (kd := 3) (N' := 10) (t0 := 0) (dv := .int 0) (x := 10) (atype := .int) ho rfl (by decide) rfl (fun w => absurd w.2 (show ¬ 25 = 41 by decide)) (Or.inl ⟨rfl, rfl, rfl, rfl, rfl⟩) ps_12_34_26 (gk_1 47 rfl rfl) (gk_5 182 rfl rfl) (by decide +kernel) (by decide +kernel) (by decide +kernel) (Nat.le_of_ble_eq_true rfl) (Nat.le_trans (Nat.le_of_ble_eq_true rfl) hR.1) (Nat.le_trans (Nat.le_of_ble_eq_true rfl) hR.2.1) (dec_at okI_md 100 rfl) (dec_at okI_md 101 rfl) (fun H1 locs1 hB1 hz1 hf1 hS1 => ?_)
  clear hB hz hS hf1
  have hB : CB D z (pos (34, 0) + 26) 34 (addS Smd_3 25) (fnL (adZ z) cA ((34, 26) :: dmd_3)) H1 := hB1
  have hz : H1.size = z + (pos (34, 0) + 26) := hz1
  have hS := hS1
  clear hB1 hz1 hS1
  -- field 26, from 203
  refine lv_aload_n (k := 0) (i := 0) hx hb (dec_at okI_md 102 rfl) rfl (lv_at hl 0 rfl) ?_
  refine lv_bipush (n := 9) (v := 9) hx hb (dec_at okI_md 103 rfl) (by decide +kernel) ?_
  refine st_na hC hS hB hz (idx := 85) (ci := 12) (N := 71) (k := 26) (T := TX12) (kd := 3) (N' := 9) (t0 := 0) (dv := .int 0) (x := 9) (atype := .int) ho rfl (by decide) rfl (fun w => absurd w.2 (show ¬ 26 = 41 by decide)) (Or.inl ⟨rfl, rfl, rfl, rfl, rfl⟩) ps_12_34_27 (gk_1 47 rfl rfl) (gk_5 183 rfl rfl) (by decide +kernel) (by decide +kernel) (by decide +kernel) (Nat.le_of_ble_eq_true rfl) (Nat.le_trans (Nat.le_of_ble_eq_true rfl) hR.1) (Nat.le_trans (Nat.le_of_ble_eq_true rfl) hR.2.1) (dec_at okI_md 104 rfl) (dec_at okI_md 105 rfl) (fun H1 locs1 hB1 hz1 hf1 hS1 => ?_)
  clear hB hz hS hf1
  have hB : CB D z (pos (34, 0) + 27) 34 (addS (addS Smd_3 25) 26) (fnL (adZ z) cA ((34, 27) :: ((34, 26) :: dmd_3))) H1 := hB1
  have hz : H1.size = z + (pos (34, 0) + 27) := hz1
  have hS := hS1
  clear hB1 hz1 hS1
  -- field 27, from 211
  refine lv_aload_n (k := 0) (i := 0) hx hb (dec_at okI_md 106 rfl) rfl (lv_at hl 0 rfl) ?_
  refine lv_bipush (n := 9) (v := 9) hx hb (dec_at okI_md 107 rfl) (by decide +kernel) ?_
  refine st_na hC hS hB hz (idx := 88) (ci := 12) (N := 71) (k := 27) (T := TX12) (kd := 3) (N' := 9) (t0 := 0) (dv := .int 0) (x := 9) (atype := .int) ho rfl (by decide) rfl (fun w => absurd w.2 (show ¬ 27 = 41 by decide)) (Or.inl ⟨rfl, rfl, rfl, rfl, rfl⟩) ps_12_34_28 (gk_1 47 rfl rfl) (gk_5 184 rfl rfl) (by decide +kernel) (by decide +kernel) (by decide +kernel) (Nat.le_of_ble_eq_true rfl) (Nat.le_trans (Nat.le_of_ble_eq_true rfl) hR.1) (Nat.le_trans (Nat.le_of_ble_eq_true rfl) hR.2.1) (dec_at okI_md 108 rfl) (dec_at okI_md 109 rfl) (fun H1 locs1 hB1 hz1 hf1 hS1 => ?_)
  clear hB hz hS hf1
  have hB : CB D z (pos (34, 0) + 28) 34 (addS (addS (addS Smd_3 25) 26) 27) (fnL (adZ z) cA ((34, 28) :: ((34, 27) :: ((34, 26) :: dmd_3)))) H1 := hB1
  have hz : H1.size = z + (pos (34, 0) + 28) := hz1
  have hS := hS1
  clear hB1 hz1 hS1
  -- field 28, from 219
  refine lv_aload_n (k := 0) (i := 0) hx hb (dec_at okI_md 110 rfl) rfl (lv_at hl 0 rfl) ?_
  refine lv_iconst (n := 5) (v := 5) hx hb (dec_at okI_md 111 rfl) (by decide +kernel) ?_
  refine st_na hC hS hB hz (idx := 91) (ci := 12) (N := 71) (k := 28) (T := TX12) (kd := 3) (N' := 5) (t0 := 0) (dv := .int 0) (x := 5) (atype := .int) ho rfl (by decide) rfl (fun w => absurd w.2 (show ¬ 28 = 41 by decide)) (Or.inl ⟨rfl, rfl, rfl, rfl, rfl⟩) ps_12_34_29 (gk_1 47 rfl rfl) (gk_5 185 rfl rfl) (by decide +kernel) (by decide +kernel) (by decide +kernel) (Nat.le_of_ble_eq_true rfl) (Nat.le_trans (Nat.le_of_ble_eq_true rfl) hR.1) (Nat.le_trans (Nat.le_of_ble_eq_true rfl) hR.2.1) (dec_at okI_md 112 rfl) (dec_at okI_md 113 rfl) (fun H1 locs1 hB1 hz1 hf1 hS1 => ?_)
  clear hB hz hS hf1
  have hB : CB D z (pos (34, 0) + 29) 34 (addS (addS (addS (addS Smd_3 25) 26) 27) 28) (fnL (adZ z) cA ((34, 29) :: ((34, 28) :: ((34, 27) :: ((34, 26) :: dmd_3))))) H1 := hB1
  have hz : H1.size = z + (pos (34, 0) + 29) := hz1
  have hS := hS1
  clear hB1 hz1 hS1
  -- field 29, from 226
  refine lv_aload_n (k := 0) (i := 0) hx hb (dec_at okI_md 114 rfl) rfl (lv_at hl 0 rfl) ?_
  refine lv_iconst (n := 5) (v := 5) hx hb (dec_at okI_md 115 rfl) (by decide +kernel) ?_
  refine st_na hC hS hB hz (idx := 94) (ci := 12) (N := 71) (k := 29) (T := TX12) (kd := 3) (N' := 5) (t0 := 0) (dv := .int 0) (x := 5) (atype := .int) ho rfl (by decide) rfl (fun w => absurd w.2 (show ¬ 29 = 41 by decide)) (Or.inl ⟨rfl, rfl, rfl, rfl, rfl⟩) ps_12_34_30 (gk_1 47 rfl rfl) (gk_5 186 rfl rfl) (by decide +kernel) (by decide +kernel) (by decide +kernel) (Nat.le_of_ble_eq_true rfl) (Nat.le_trans (Nat.le_of_ble_eq_true rfl) hR.1) (Nat.le_trans (Nat.le_of_ble_eq_true rfl) hR.2.1) (dec_at okI_md 116 rfl) (dec_at okI_md 117 rfl) (fun H1 locs1 hB1 hz1 hf1 hS1 => ?_)
  clear hB hz hS hf1
  have hB : CB D z (pos (34, 0) + 30) 34 (addS (addS (addS (addS (addS Smd_3 25) 26) 27) 28) 29) (fnL (adZ z) cA ((34, 30) :: ((34, 29) :: ((34, 28) :: ((34, 27) :: ((34, 26) :: dmd_3)))))) H1 := hB1
  have hz : H1.size = z + (pos (34, 0) + 30) := hz1
  have hS := hS1
  clear hB1 hz1 hS1
  -- field 30, from 233
  refine lv_aload_n (k := 0) (i := 0) hx hb (dec_at okI_md 118 rfl) rfl (lv_at hl 0 rfl) ?_
  refine lv_bipush (n := 20) (v := 20) hx hb (dec_at okI_md 119 rfl) (by decide +kernel) ?_
  refine st_na hC hS hB hz (idx := 97) (ci := 12) (N := 71) (k := 30) (T := TX12) (kd := 3) (N' := 20) (t0 := 0) (dv := .int 0) (x := 20) (atype := .int) ho rfl (by decide) rfl (fun w => absurd w.2 (show ¬ 30 = 41 by decide)) (Or.inl ⟨rfl, rfl, rfl, rfl, rfl⟩) ps_12_34_31 (gk_1 47 rfl rfl) (gk_5 187 rfl rfl) (by decide +kernel) (by decide +kernel) (by decide +kernel) (Nat.le_of_ble_eq_true rfl) (Nat.le_trans (Nat.le_of_ble_eq_true rfl) hR.1) (Nat.le_trans (Nat.le_of_ble_eq_true rfl) hR.2.1) (dec_at okI_md 120 rfl) (dec_at okI_md 121 rfl) (fun H1 locs1 hB1 hz1 hf1 hS1 => ?_)
  clear hB hz hS hf1
  have hB : CB D z (pos (34, 0) + 31) 34 (addS (addS (addS (addS (addS (addS Smd_3 25) 26) 27) 28) 29) 30) (fnL (adZ z) cA ((34, 31) :: ((34, 30) :: ((34, 29) :: ((34, 28) :: ((34, 27) :: ((34, 26) :: dmd_3))))))) H1 := hB1
  have hz : H1.size = z + (pos (34, 0) + 31) := hz1
  have hS := hS1
  clear hB1 hz1 hS1
  -- field 31, from 241
  refine lv_aload_n (k := 0) (i := 0) hx hb (dec_at okI_md 122 rfl) rfl (lv_at hl 0 rfl) ?_
  refine lv_bipush (n := 20) (v := 20) hx hb (dec_at okI_md 123 rfl) (by decide +kernel) ?_
  refine st_na hC hS hB hz (idx := 100) (ci := 12) (N := 71) (k := 31) (T := TX12) (kd := 3) (N' := 20) (t0 := 0) (dv := .int 0) (x := 20) (atype := .int) ho rfl (by decide) rfl (fun w => absurd w.2 (show ¬ 31 = 41 by decide)) (Or.inl ⟨rfl, rfl, rfl, rfl, rfl⟩) ps_12_34_32 (gk_1 47 rfl rfl) (gk_5 188 rfl rfl) (by decide +kernel) (by decide +kernel) (by decide +kernel) (Nat.le_of_ble_eq_true rfl) (Nat.le_trans (Nat.le_of_ble_eq_true rfl) hR.1) (Nat.le_trans (Nat.le_of_ble_eq_true rfl) hR.2.1) (dec_at okI_md 124 rfl) (dec_at okI_md 125 rfl) (fun H1 locs1 hB1 hz1 hf1 hS1 => ?_)
  clear hB hz hS hf1
  have hB : CB D z (pos (34, 0) + 32) 34 (addS (addS (addS (addS (addS (addS (addS Smd_3 25) 26) 27) 28) 29) 30) 31) (fnL (adZ z) cA ((34, 32) :: ((34, 31) :: ((34, 30) :: ((34, 29) :: ((34, 28) :: ((34, 27) :: ((34, 26) :: dmd_3)))))))) H1 := hB1
  have hz : H1.size = z + (pos (34, 0) + 32) := hz1
  have hS := hS1
  clear hB1 hz1 hS1
  -- field 41, from 249
  refine lv_aload_n (k := 0) (i := 0) hx hb (dec_at okI_md 126 rfl) rfl (lv_at hl 0 rfl) ?_
  refine lv_bipush (n := 9) (v := 9) hx hb (dec_at okI_md 127 rfl) (by decide +kernel) ?_
  refine st_put hC hS hB (idx := 103) (N := 71) (k := 41) (T := TX12) (v := .int 9) ho rfl (by decide) (gk_5 198 rfl rfl) rfl (tyX12_ok 41 (by decide)) rfl rfl (dec_at okI_md 128 rfl) (fun H3 locs3 hB1 z3 _ hS1 => ?_)
  have hz1 : H3.size = z + (pos (34, 0) + 32) := by omega
  clear hB hz hS
  have hB := hB1
  have hz := hz1
  have hS := hS1
  clear hB1 hz1 hS1
  exact kk _ _ hB hz hS
def Smd_5 : Nat → Bool := (addS (addS (addS (addS (addS (addS (addS (addS Smd_4 43) 44) 45) 46) 47) 48) 49) 50)
def dmd_5 : List (Nat × Nat) := ((34, 51) :: ((34, 50) :: ((34, 49) :: ((34, 48) :: ((34, 47) :: ((34, 46) :: ((34, 45) :: ((34, 44) :: dmd_4))))))))
set_option maxHeartbeats 4000000 in
set_option maxRecDepth 100000 in
theorem c_md_5 {p : Program} {l : Launch} {e : Env} {R : Room} {s : State} {m : MethodId} {args : Array Value} {below : List Frame} {meth : Method} {c : Code} {H : Heap} {locs : List Loc} {Q : State → Prop} {ls : Array Slot} {D : va_G} {cA : Nat → ClassId} {z : Nat} (hC : CIc p s m args meth c cX12_init 1 D cA RX12) (hex : exN s) (hR : 56 ≤ R.cells ∧ 151197 ≤ R.slots ∧ 1 ≤ R.frames ∧ 40 ≤ R.locals) (hS : va_S (fun q => z + pos (34, 0) ≤ q) s.heap H locs) (hB : CB D z (pos (34, 0) + 32) 34 Smd_4 (fnL (adZ z) cA dmd_4) H) (hz : H.size = z + (pos (34, 0) + 32)) (hl : lv_has ls 1 [(0, .ref (z + pos (34, 0)))])
    (kk : ∀ (H1 : Heap) (locs1 : List Loc), CB D z (pos (34, 0) + 40) 34 Smd_5 (fnL (adZ z) cA dmd_5) H1 → H1.size = z + (pos (34, 0) + 40) → va_S (fun q => z + pos (34, 0) ≤ q) s.heap H1 locs1 → W p l e R s m args below meth c H1 locs1 39 4639 Q (F0 m 322 ls [])) : W p l e R s m args below meth c H locs 31 345 Q (F0 m 255 ls []) := by
  have hx := hC.1.1
  have hb := hC.1.2.1
  have hown := hC.1.2.2.2.1
  have hts := hC.2.1
  have ho : cls 34 = 12 := rfl
  -- field 43, from 255
  refine lv_aload_n (k := 0) (i := 0) hx hb (dec_at okI_md 129 rfl) rfl (lv_at hl 0 rfl) ?_
  refine lv_sipush (n := 400) (v := 400) hx hb (dec_at okI_md 130 rfl) (by decide +kernel) ?_
  refine st_na hC hS hB hz (idx := 107) (ci := 12) (N := 71) (k := 43) (T := TX12) (kd := 6) (N' := 400) (t0 := 3) (dv := .int 0) (x := 400) (atype := .byte) ho rfl (by decide) rfl (fun w => absurd w.2 (show ¬ 43 = 41 by decide)) (Or.inr (Or.inr (Or.inr ⟨rfl, rfl, rfl, rfl, rfl⟩))) ps_12_34_44 (gk_3 152 rfl rfl) (gk_5 200 rfl rfl) (by decide +kernel) (by decide +kernel) (by decide +kernel) (Nat.le_of_ble_eq_true rfl) (Nat.le_trans (Nat.le_of_ble_eq_true rfl) hR.1) (Nat.le_trans (Nat.le_of_ble_eq_true rfl) hR.2.1) (dec_at okI_md 131 rfl) (dec_at okI_md 132 rfl) (fun H1 locs1 hB1 hz1 hf1 hS1 => ?_)
  clear hB hz hS hf1
  have hB : CB D z (pos (34, 0) + 33) 34 (addS Smd_4 43) (fnL (adZ z) cA ((34, 44) :: dmd_4)) H1 := hB1
  have hz : H1.size = z + (pos (34, 0) + 33) := hz1
  have hS := hS1
  clear hB1 hz1 hS1
  -- field 44, from 264
  refine lv_aload_n (k := 0) (i := 0) hx hb (dec_at okI_md 133 rfl) rfl (lv_at hl 0 rfl) ?_
  refine lv_sipush (n := 1800) (v := 1800) hx hb (dec_at okI_md 134 rfl) (by decide +kernel) ?_
  refine st_na hC hS hB hz (idx := 111) (ci := 12) (N := 71) (k := 44) (T := TX12) (kd := 3) (N' := 1800) (t0 := 0) (dv := .int 0) (x := 1800) (atype := .int) ho rfl (by decide) rfl (fun w => absurd w.2 (show ¬ 44 = 41 by decide)) (Or.inl ⟨rfl, rfl, rfl, rfl, rfl⟩) ps_12_34_45 (gk_1 47 rfl rfl) (gk_5 201 rfl rfl) (by decide +kernel) (by decide +kernel) (by decide +kernel) (Nat.le_of_ble_eq_true rfl) (Nat.le_trans (Nat.le_of_ble_eq_true rfl) hR.1) (Nat.le_trans (Nat.le_of_ble_eq_true rfl) hR.2.1) (dec_at okI_md 135 rfl) (dec_at okI_md 136 rfl) (fun H1 locs1 hB1 hz1 hf1 hS1 => ?_)
  clear hB hz hS hf1
  have hB : CB D z (pos (34, 0) + 34) 34 (addS (addS Smd_4 43) 44) (fnL (adZ z) cA ((34, 45) :: ((34, 44) :: dmd_4))) H1 := hB1
  have hz : H1.size = z + (pos (34, 0) + 34) := hz1
  have hS := hS1
  clear hB1 hz1 hS1
  -- field 45, from 273
  refine lv_aload_n (k := 0) (i := 0) hx hb (dec_at okI_md 137 rfl) rfl (lv_at hl 0 rfl) ?_
  refine lv_sipush (n := 1800) (v := 1800) hx hb (dec_at okI_md 138 rfl) (by decide +kernel) ?_
  refine st_na hC hS hB hz (idx := 114) (ci := 12) (N := 71) (k := 45) (T := TX12) (kd := 3) (N' := 1800) (t0 := 0) (dv := .int 0) (x := 1800) (atype := .int) ho rfl (by decide) rfl (fun w => absurd w.2 (show ¬ 45 = 41 by decide)) (Or.inl ⟨rfl, rfl, rfl, rfl, rfl⟩) ps_12_34_46 (gk_1 47 rfl rfl) (gk_5 202 rfl rfl) (by decide +kernel) (by decide +kernel) (by decide +kernel) (Nat.le_of_ble_eq_true rfl) (Nat.le_trans (Nat.le_of_ble_eq_true rfl) hR.1) (Nat.le_trans (Nat.le_of_ble_eq_true rfl) hR.2.1) (dec_at okI_md 139 rfl) (dec_at okI_md 140 rfl) (fun H1 locs1 hB1 hz1 hf1 hS1 => ?_)
  clear hB hz hS hf1
  have hB : CB D z (pos (34, 0) + 35) 34 (addS (addS (addS Smd_4 43) 44) 45) (fnL (adZ z) cA ((34, 46) :: ((34, 45) :: ((34, 44) :: dmd_4)))) H1 := hB1
  have hz : H1.size = z + (pos (34, 0) + 35) := hz1
  have hS := hS1
  clear hB1 hz1 hS1
  -- field 46, from 282
  refine lv_aload_n (k := 0) (i := 0) hx hb (dec_at okI_md 141 rfl) rfl (lv_at hl 0 rfl) ?_
  refine lv_bipush (n := 6) (v := 6) hx hb (dec_at okI_md 142 rfl) (by decide +kernel) ?_
  refine st_na hC hS hB hz (idx := 117) (ci := 12) (N := 71) (k := 46) (T := TX12) (kd := 3) (N' := 6) (t0 := 0) (dv := .int 0) (x := 6) (atype := .int) ho rfl (by decide) rfl (fun w => absurd w.2 (show ¬ 46 = 41 by decide)) (Or.inl ⟨rfl, rfl, rfl, rfl, rfl⟩) ps_12_34_47 (gk_1 47 rfl rfl) (gk_5 203 rfl rfl) (by decide +kernel) (by decide +kernel) (by decide +kernel) (Nat.le_of_ble_eq_true rfl) (Nat.le_trans (Nat.le_of_ble_eq_true rfl) hR.1) (Nat.le_trans (Nat.le_of_ble_eq_true rfl) hR.2.1) (dec_at okI_md 143 rfl) (dec_at okI_md 144 rfl) (fun H1 locs1 hB1 hz1 hf1 hS1 => ?_)
  clear hB hz hS hf1
  have hB : CB D z (pos (34, 0) + 36) 34 (addS (addS (addS (addS Smd_4 43) 44) 45) 46) (fnL (adZ z) cA ((34, 47) :: ((34, 46) :: ((34, 45) :: ((34, 44) :: dmd_4))))) H1 := hB1
  have hz : H1.size = z + (pos (34, 0) + 36) := hz1
  have hS := hS1
  clear hB1 hz1 hS1
  -- field 47, from 290
  refine lv_aload_n (k := 0) (i := 0) hx hb (dec_at okI_md 145 rfl) rfl (lv_at hl 0 rfl) ?_
  refine lv_bipush (n := 72) (v := 72) hx hb (dec_at okI_md 146 rfl) (by decide +kernel) ?_
  refine st_na hC hS hB hz (idx := 120) (ci := 12) (N := 71) (k := 47) (T := TX12) (kd := 3) (N' := 72) (t0 := 0) (dv := .int 0) (x := 72) (atype := .int) ho rfl (by decide) rfl (fun w => absurd w.2 (show ¬ 47 = 41 by decide)) (Or.inl ⟨rfl, rfl, rfl, rfl, rfl⟩) ps_12_34_48 (gk_1 47 rfl rfl) (gk_5 204 rfl rfl) (by decide +kernel) (by decide +kernel) (by decide +kernel) (Nat.le_of_ble_eq_true rfl) (Nat.le_trans (Nat.le_of_ble_eq_true rfl) hR.1) (Nat.le_trans (Nat.le_of_ble_eq_true rfl) hR.2.1) (dec_at okI_md 147 rfl) (dec_at okI_md 148 rfl) (fun H1 locs1 hB1 hz1 hf1 hS1 => ?_)
  clear hB hz hS hf1
  have hB : CB D z (pos (34, 0) + 37) 34 (addS (addS (addS (addS (addS Smd_4 43) 44) 45) 46) 47) (fnL (adZ z) cA ((34, 48) :: ((34, 47) :: ((34, 46) :: ((34, 45) :: ((34, 44) :: dmd_4)))))) H1 := hB1
  have hz : H1.size = z + (pos (34, 0) + 37) := hz1
  have hS := hS1
  clear hB1 hz1 hS1
  -- field 48, from 298
  refine lv_aload_n (k := 0) (i := 0) hx hb (dec_at okI_md 149 rfl) rfl (lv_at hl 0 rfl) ?_
  refine lv_bipush (n := 72) (v := 72) hx hb (dec_at okI_md 150 rfl) (by decide +kernel) ?_
  refine st_na hC hS hB hz (idx := 123) (ci := 12) (N := 71) (k := 48) (T := TX12) (kd := 3) (N' := 72) (t0 := 0) (dv := .int 0) (x := 72) (atype := .int) ho rfl (by decide) rfl (fun w => absurd w.2 (show ¬ 48 = 41 by decide)) (Or.inl ⟨rfl, rfl, rfl, rfl, rfl⟩) ps_12_34_49 (gk_1 47 rfl rfl) (gk_5 205 rfl rfl) (by decide +kernel) (by decide +kernel) (by decide +kernel) (Nat.le_of_ble_eq_true rfl) (Nat.le_trans (Nat.le_of_ble_eq_true rfl) hR.1) (Nat.le_trans (Nat.le_of_ble_eq_true rfl) hR.2.1) (dec_at okI_md 151 rfl) (dec_at okI_md 152 rfl) (fun H1 locs1 hB1 hz1 hf1 hS1 => ?_)
  clear hB hz hS hf1
  have hB : CB D z (pos (34, 0) + 38) 34 (addS (addS (addS (addS (addS (addS Smd_4 43) 44) 45) 46) 47) 48) (fnL (adZ z) cA ((34, 49) :: ((34, 48) :: ((34, 47) :: ((34, 46) :: ((34, 45) :: ((34, 44) :: dmd_4))))))) H1 := hB1
  have hz : H1.size = z + (pos (34, 0) + 38) := hz1
  have hS := hS1
  clear hB1 hz1 hS1
  -- field 49, from 306
  refine lv_aload_n (k := 0) (i := 0) hx hb (dec_at okI_md 153 rfl) rfl (lv_at hl 0 rfl) ?_
  refine lv_bipush (n := 72) (v := 72) hx hb (dec_at okI_md 154 rfl) (by decide +kernel) ?_
  refine st_na hC hS hB hz (idx := 126) (ci := 12) (N := 71) (k := 49) (T := TX12) (kd := 3) (N' := 72) (t0 := 0) (dv := .int 0) (x := 72) (atype := .int) ho rfl (by decide) rfl (fun w => absurd w.2 (show ¬ 49 = 41 by decide)) (Or.inl ⟨rfl, rfl, rfl, rfl, rfl⟩) ps_12_34_50 (gk_1 47 rfl rfl) (gk_5 206 rfl rfl) (by decide +kernel) (by decide +kernel) (by decide +kernel) (Nat.le_of_ble_eq_true rfl) (Nat.le_trans (Nat.le_of_ble_eq_true rfl) hR.1) (Nat.le_trans (Nat.le_of_ble_eq_true rfl) hR.2.1) (dec_at okI_md 155 rfl) (dec_at okI_md 156 rfl) (fun H1 locs1 hB1 hz1 hf1 hS1 => ?_)
  clear hB hz hS hf1
  have hB : CB D z (pos (34, 0) + 39) 34 (addS (addS (addS (addS (addS (addS (addS Smd_4 43) 44) 45) 46) 47) 48) 49) (fnL (adZ z) cA ((34, 50) :: ((34, 49) :: ((34, 48) :: ((34, 47) :: ((34, 46) :: ((34, 45) :: ((34, 44) :: dmd_4)))))))) H1 := hB1
  have hz : H1.size = z + (pos (34, 0) + 39) := hz1
  have hS := hS1
  clear hB1 hz1 hS1
  -- field 50, from 314
  refine lv_aload_n (k := 0) (i := 0) hx hb (dec_at okI_md 157 rfl) rfl (lv_at hl 0 rfl) ?_
  refine lv_bipush (n := 72) (v := 72) hx hb (dec_at okI_md 158 rfl) (by decide +kernel) ?_
  refine st_na hC hS hB hz (idx := 129) (ci := 12) (N := 71) (k := 50) (T := TX12) (kd := 3) (N' := 72) (t0 := 0) (dv := .int 0) (x := 72) (atype := .int) ho rfl (by decide) rfl (fun w => absurd w.2 (show ¬ 50 = 41 by decide)) (Or.inl ⟨rfl, rfl, rfl, rfl, rfl⟩) ps_12_34_51 (gk_1 47 rfl rfl) (gk_5 207 rfl rfl) (by decide +kernel) (by decide +kernel) (by decide +kernel) (Nat.le_of_ble_eq_true rfl) (Nat.le_trans (Nat.le_of_ble_eq_true rfl) hR.1) (Nat.le_trans (Nat.le_of_ble_eq_true rfl) hR.2.1) (dec_at okI_md 159 rfl) (dec_at okI_md 160 rfl) (fun H1 locs1 hB1 hz1 hf1 hS1 => ?_)
  clear hB hz hS hf1
  have hB : CB D z (pos (34, 0) + 40) 34 (addS (addS (addS (addS (addS (addS (addS (addS Smd_4 43) 44) 45) 46) 47) 48) 49) 50) (fnL (adZ z) cA ((34, 51) :: ((34, 50) :: ((34, 49) :: ((34, 48) :: ((34, 47) :: ((34, 46) :: ((34, 45) :: ((34, 44) :: dmd_4))))))))) H1 := hB1
  have hz : H1.size = z + (pos (34, 0) + 40) := hz1
  have hS := hS1
  clear hB1 hz1 hS1
  exact kk _ _ hB hz hS
def Smd_6 : Nat → Bool := (addS (addS (addS (addS (addS (addS (addS (addS Smd_5 51) 52) 53) 54) 55) 56) 57) 58)
def dmd_6 : List (Nat × Nat) := ((34, 59) :: ((34, 58) :: ((34, 57) :: ((34, 56) :: ((34, 55) :: ((34, 54) :: ((34, 53) :: ((34, 52) :: dmd_5))))))))
set_option maxHeartbeats 4000000 in
set_option maxRecDepth 100000 in
theorem c_md_6 {p : Program} {l : Launch} {e : Env} {R : Room} {s : State} {m : MethodId} {args : Array Value} {below : List Frame} {meth : Method} {c : Code} {H : Heap} {locs : List Loc} {Q : State → Prop} {ls : Array Slot} {D : va_G} {cA : Nat → ClassId} {z : Nat} (hC : CIc p s m args meth c cX12_init 1 D cA RX12) (hex : exN s) (hR : 56 ≤ R.cells ∧ 151197 ≤ R.slots ∧ 1 ≤ R.frames ∧ 40 ≤ R.locals) (hS : va_S (fun q => z + pos (34, 0) ≤ q) s.heap H locs) (hB : CB D z (pos (34, 0) + 40) 34 Smd_5 (fnL (adZ z) cA dmd_5) H) (hz : H.size = z + (pos (34, 0) + 40)) (hl : lv_has ls 1 [(0, .ref (z + pos (34, 0)))])
    (kk : ∀ (H1 : Heap) (locs1 : List Loc), CB D z (pos (34, 0) + 48) 34 Smd_6 (fnL (adZ z) cA dmd_6) H1 → H1.size = z + (pos (34, 0) + 48) → va_S (fun q => z + pos (34, 0) ≤ q) s.heap H1 locs1 → W p l e R s m args below meth c H1 locs1 47 6420 Q (F0 m 390 ls [])) : W p l e R s m args below meth c H locs 39 4639 Q (F0 m 322 ls []) := by
  have hx := hC.1.1
  have hb := hC.1.2.1
  have hown := hC.1.2.2.2.1
  have hts := hC.2.1
  have ho : cls 34 = 12 := rfl
  -- field 51, from 322
  refine lv_aload_n (k := 0) (i := 0) hx hb (dec_at okI_md 161 rfl) rfl (lv_at hl 0 rfl) ?_
  refine lv_sipush (n := 402) (v := 402) hx hb (dec_at okI_md 162 rfl) (by decide +kernel) ?_
  refine st_na hC hS hB hz (idx := 132) (ci := 12) (N := 71) (k := 51) (T := TX12) (kd := 3) (N' := 402) (t0 := 0) (dv := .int 0) (x := 402) (atype := .int) ho rfl (by decide) rfl (fun w => absurd w.2 (show ¬ 51 = 41 by decide)) (Or.inl ⟨rfl, rfl, rfl, rfl, rfl⟩) ps_12_34_52 (gk_1 47 rfl rfl) (gk_5 208 rfl rfl) (by decide +kernel) (by decide +kernel) (by decide +kernel) (Nat.le_of_ble_eq_true rfl) (Nat.le_trans (Nat.le_of_ble_eq_true rfl) hR.1) (Nat.le_trans (Nat.le_of_ble_eq_true rfl) hR.2.1) (dec_at okI_md 163 rfl) (dec_at okI_md 164 rfl) (fun H1 locs1 hB1 hz1 hf1 hS1 => ?_)
  clear hB hz hS hf1
  have hB : CB D z (pos (34, 0) + 41) 34 (addS Smd_5 51) (fnL (adZ z) cA ((34, 52) :: dmd_5)) H1 := hB1
  have hz : H1.size = z + (pos (34, 0) + 41) := hz1
  have hS := hS1
  clear hB1 hz1 hS1
  -- field 52, from 331
  refine lv_aload_n (k := 0) (i := 0) hx hb (dec_at okI_md 165 rfl) rfl (lv_at hl 0 rfl) ?_
  refine lv_bipush (n := 9) (v := 9) hx hb (dec_at okI_md 166 rfl) (by decide +kernel) ?_
  refine st_na hC hS hB hz (idx := 135) (ci := 12) (N := 71) (k := 52) (T := TX12) (kd := 4) (N' := 9) (t0 := 1) (dv := .long 0) (x := 9) (atype := .long) ho rfl (by decide) rfl (fun w => absurd w.2 (show ¬ 52 = 41 by decide)) (Or.inr (Or.inl ⟨rfl, rfl, rfl, rfl, rfl⟩)) ps_12_34_53 (gk_2 21 rfl rfl) (gk_5 209 rfl rfl) (by decide +kernel) (by decide +kernel) (by decide +kernel) (Nat.le_of_ble_eq_true rfl) (Nat.le_trans (Nat.le_of_ble_eq_true rfl) hR.1) (Nat.le_trans (Nat.le_of_ble_eq_true rfl) hR.2.1) (dec_at okI_md 167 rfl) (dec_at okI_md 168 rfl) (fun H1 locs1 hB1 hz1 hf1 hS1 => ?_)
  clear hB hz hS hf1
  have hB : CB D z (pos (34, 0) + 42) 34 (addS (addS Smd_5 51) 52) (fnL (adZ z) cA ((34, 53) :: ((34, 52) :: dmd_5))) H1 := hB1
  have hz : H1.size = z + (pos (34, 0) + 42) := hz1
  have hS := hS1
  clear hB1 hz1 hS1
  -- field 53, from 339
  refine lv_aload_n (k := 0) (i := 0) hx hb (dec_at okI_md 169 rfl) rfl (lv_at hl 0 rfl) ?_
  refine lv_sipush (n := 300) (v := 300) hx hb (dec_at okI_md 170 rfl) (by decide +kernel) ?_
  refine st_na hC hS hB hz (idx := 139) (ci := 12) (N := 71) (k := 53) (T := TX12) (kd := 4) (N' := 300) (t0 := 1) (dv := .long 0) (x := 300) (atype := .long) ho rfl (by decide) rfl (fun w => absurd w.2 (show ¬ 53 = 41 by decide)) (Or.inr (Or.inl ⟨rfl, rfl, rfl, rfl, rfl⟩)) ps_12_34_54 (gk_2 21 rfl rfl) (gk_5 210 rfl rfl) (by decide +kernel) (by decide +kernel) (by decide +kernel) (Nat.le_of_ble_eq_true rfl) (Nat.le_trans (Nat.le_of_ble_eq_true rfl) hR.1) (Nat.le_trans (Nat.le_of_ble_eq_true rfl) hR.2.1) (dec_at okI_md 171 rfl) (dec_at okI_md 172 rfl) (fun H1 locs1 hB1 hz1 hf1 hS1 => ?_)
  clear hB hz hS hf1
  have hB : CB D z (pos (34, 0) + 43) 34 (addS (addS (addS Smd_5 51) 52) 53) (fnL (adZ z) cA ((34, 54) :: ((34, 53) :: ((34, 52) :: dmd_5)))) H1 := hB1
  have hz : H1.size = z + (pos (34, 0) + 43) := hz1
  have hS := hS1
  clear hB1 hz1 hS1
  -- field 54, from 348
  refine lv_aload_n (k := 0) (i := 0) hx hb (dec_at okI_md 173 rfl) rfl (lv_at hl 0 rfl) ?_
  refine lv_bipush (n := 18) (v := 18) hx hb (dec_at okI_md 174 rfl) (by decide +kernel) ?_
  refine st_na hC hS hB hz (idx := 142) (ci := 12) (N := 71) (k := 54) (T := TX12) (kd := 3) (N' := 18) (t0 := 0) (dv := .int 0) (x := 18) (atype := .int) ho rfl (by decide) rfl (fun w => absurd w.2 (show ¬ 54 = 41 by decide)) (Or.inl ⟨rfl, rfl, rfl, rfl, rfl⟩) ps_12_34_55 (gk_1 47 rfl rfl) (gk_5 211 rfl rfl) (by decide +kernel) (by decide +kernel) (by decide +kernel) (Nat.le_of_ble_eq_true rfl) (Nat.le_trans (Nat.le_of_ble_eq_true rfl) hR.1) (Nat.le_trans (Nat.le_of_ble_eq_true rfl) hR.2.1) (dec_at okI_md 175 rfl) (dec_at okI_md 176 rfl) (fun H1 locs1 hB1 hz1 hf1 hS1 => ?_)
  clear hB hz hS hf1
  have hB : CB D z (pos (34, 0) + 44) 34 (addS (addS (addS (addS Smd_5 51) 52) 53) 54) (fnL (adZ z) cA ((34, 55) :: ((34, 54) :: ((34, 53) :: ((34, 52) :: dmd_5))))) H1 := hB1
  have hz : H1.size = z + (pos (34, 0) + 44) := hz1
  have hS := hS1
  clear hB1 hz1 hS1
  -- field 55, from 356
  refine lv_aload_n (k := 0) (i := 0) hx hb (dec_at okI_md 177 rfl) rfl (lv_at hl 0 rfl) ?_
  refine lv_bipush (n := 12) (v := 12) hx hb (dec_at okI_md 178 rfl) (by decide +kernel) ?_
  refine st_na hC hS hB hz (idx := 145) (ci := 12) (N := 71) (k := 55) (T := TX12) (kd := 3) (N' := 12) (t0 := 0) (dv := .int 0) (x := 12) (atype := .int) ho rfl (by decide) rfl (fun w => absurd w.2 (show ¬ 55 = 41 by decide)) (Or.inl ⟨rfl, rfl, rfl, rfl, rfl⟩) ps_12_34_56 (gk_1 47 rfl rfl) (gk_5 212 rfl rfl) (by decide +kernel) (by decide +kernel) (by decide +kernel) (Nat.le_of_ble_eq_true rfl) (Nat.le_trans (Nat.le_of_ble_eq_true rfl) hR.1) (Nat.le_trans (Nat.le_of_ble_eq_true rfl) hR.2.1) (dec_at okI_md 179 rfl) (dec_at okI_md 180 rfl) (fun H1 locs1 hB1 hz1 hf1 hS1 => ?_)
  clear hB hz hS hf1
  have hB : CB D z (pos (34, 0) + 45) 34 (addS (addS (addS (addS (addS Smd_5 51) 52) 53) 54) 55) (fnL (adZ z) cA ((34, 56) :: ((34, 55) :: ((34, 54) :: ((34, 53) :: ((34, 52) :: dmd_5)))))) H1 := hB1
  have hz : H1.size = z + (pos (34, 0) + 45) := hz1
  have hS := hS1
  clear hB1 hz1 hS1
  -- field 56, from 364
  refine lv_aload_n (k := 0) (i := 0) hx hb (dec_at okI_md 181 rfl) rfl (lv_at hl 0 rfl) ?_
  refine lv_bipush (n := 16) (v := 16) hx hb (dec_at okI_md 182 rfl) (by decide +kernel) ?_
  refine st_na hC hS hB hz (idx := 148) (ci := 12) (N := 71) (k := 56) (T := TX12) (kd := 3) (N' := 16) (t0 := 0) (dv := .int 0) (x := 16) (atype := .int) ho rfl (by decide) rfl (fun w => absurd w.2 (show ¬ 56 = 41 by decide)) (Or.inl ⟨rfl, rfl, rfl, rfl, rfl⟩) ps_12_34_57 (gk_1 47 rfl rfl) (gk_5 213 rfl rfl) (by decide +kernel) (by decide +kernel) (by decide +kernel) (Nat.le_of_ble_eq_true rfl) (Nat.le_trans (Nat.le_of_ble_eq_true rfl) hR.1) (Nat.le_trans (Nat.le_of_ble_eq_true rfl) hR.2.1) (dec_at okI_md 183 rfl) (dec_at okI_md 184 rfl) (fun H1 locs1 hB1 hz1 hf1 hS1 => ?_)
  clear hB hz hS hf1
  have hB : CB D z (pos (34, 0) + 46) 34 (addS (addS (addS (addS (addS (addS Smd_5 51) 52) 53) 54) 55) 56) (fnL (adZ z) cA ((34, 57) :: ((34, 56) :: ((34, 55) :: ((34, 54) :: ((34, 53) :: ((34, 52) :: dmd_5))))))) H1 := hB1
  have hz : H1.size = z + (pos (34, 0) + 46) := hz1
  have hS := hS1
  clear hB1 hz1 hS1
  -- field 57, from 372
  refine lv_aload_n (k := 0) (i := 0) hx hb (dec_at okI_md 185 rfl) rfl (lv_at hl 0 rfl) ?_
  refine lv_sipush (n := 512) (v := 512) hx hb (dec_at okI_md 186 rfl) (by decide +kernel) ?_
  refine st_na hC hS hB hz (idx := 151) (ci := 12) (N := 71) (k := 57) (T := TX12) (kd := 3) (N' := 512) (t0 := 0) (dv := .int 0) (x := 512) (atype := .int) ho rfl (by decide) rfl (fun w => absurd w.2 (show ¬ 57 = 41 by decide)) (Or.inl ⟨rfl, rfl, rfl, rfl, rfl⟩) ps_12_34_58 (gk_1 47 rfl rfl) (gk_5 214 rfl rfl) (by decide +kernel) (by decide +kernel) (by decide +kernel) (Nat.le_of_ble_eq_true rfl) (Nat.le_trans (Nat.le_of_ble_eq_true rfl) hR.1) (Nat.le_trans (Nat.le_of_ble_eq_true rfl) hR.2.1) (dec_at okI_md 187 rfl) (dec_at okI_md 188 rfl) (fun H1 locs1 hB1 hz1 hf1 hS1 => ?_)
  clear hB hz hS hf1
  have hB : CB D z (pos (34, 0) + 47) 34 (addS (addS (addS (addS (addS (addS (addS Smd_5 51) 52) 53) 54) 55) 56) 57) (fnL (adZ z) cA ((34, 58) :: ((34, 57) :: ((34, 56) :: ((34, 55) :: ((34, 54) :: ((34, 53) :: ((34, 52) :: dmd_5)))))))) H1 := hB1
  have hz : H1.size = z + (pos (34, 0) + 47) := hz1
  have hS := hS1
  clear hB1 hz1 hS1
  -- field 58, from 381
  refine lv_aload_n (k := 0) (i := 0) hx hb (dec_at okI_md 189 rfl) rfl (lv_at hl 0 rfl) ?_
  refine lv_sipush (n := 512) (v := 512) hx hb (dec_at okI_md 190 rfl) (by decide +kernel) ?_
  refine st_na hC hS hB hz (idx := 154) (ci := 12) (N := 71) (k := 58) (T := TX12) (kd := 3) (N' := 512) (t0 := 0) (dv := .int 0) (x := 512) (atype := .int) ho rfl (by decide) rfl (fun w => absurd w.2 (show ¬ 58 = 41 by decide)) (Or.inl ⟨rfl, rfl, rfl, rfl, rfl⟩) ps_12_34_59 (gk_1 47 rfl rfl) (gk_5 215 rfl rfl) (by decide +kernel) (by decide +kernel) (by decide +kernel) (Nat.le_of_ble_eq_true rfl) (Nat.le_trans (Nat.le_of_ble_eq_true rfl) hR.1) (Nat.le_trans (Nat.le_of_ble_eq_true rfl) hR.2.1) (dec_at okI_md 191 rfl) (dec_at okI_md 192 rfl) (fun H1 locs1 hB1 hz1 hf1 hS1 => ?_)
  clear hB hz hS hf1
  have hB : CB D z (pos (34, 0) + 48) 34 (addS (addS (addS (addS (addS (addS (addS (addS Smd_5 51) 52) 53) 54) 55) 56) 57) 58) (fnL (adZ z) cA ((34, 59) :: ((34, 58) :: ((34, 57) :: ((34, 56) :: ((34, 55) :: ((34, 54) :: ((34, 53) :: ((34, 52) :: dmd_5))))))))) H1 := hB1
  have hz : H1.size = z + (pos (34, 0) + 48) := hz1
  have hS := hS1
  clear hB1 hz1 hS1
  exact kk _ _ hB hz hS
def Smd_7 : Nat → Bool := (addS (addS (addS (addS (addS (addS (addS (addS Smd_6 59) 60) 61) 63) 64) 65) 66) 67)
def dmd_7 : List (Nat × Nat) := ((34, 68) :: ((34, 67) :: ((34, 66) :: ((34, 65) :: ((34, 64) :: ((34, 62) :: ((34, 61) :: ((34, 60) :: dmd_6))))))))
set_option maxHeartbeats 4000000 in
set_option maxRecDepth 100000 in
theorem c_md_7 {p : Program} {l : Launch} {e : Env} {R : Room} {s : State} {m : MethodId} {args : Array Value} {below : List Frame} {meth : Method} {c : Code} {H : Heap} {locs : List Loc} {Q : State → Prop} {ls : Array Slot} {D : va_G} {cA : Nat → ClassId} {z : Nat} (hC : CIc p s m args meth c cX12_init 1 D cA RX12) (hex : exN s) (hR : 56 ≤ R.cells ∧ 151197 ≤ R.slots ∧ 1 ≤ R.frames ∧ 40 ≤ R.locals) (hS : va_S (fun q => z + pos (34, 0) ≤ q) s.heap H locs) (hB : CB D z (pos (34, 0) + 48) 34 Smd_6 (fnL (adZ z) cA dmd_6) H) (hz : H.size = z + (pos (34, 0) + 48)) (hl : lv_has ls 1 [(0, .ref (z + pos (34, 0)))])
    (kk : ∀ (H1 : Heap) (locs1 : List Loc), CB D z (pos (34, 0) + 56) 34 Smd_7 (fnL (adZ z) cA dmd_7) H1 → H1.size = z + (pos (34, 0) + 56) → va_S (fun q => z + pos (34, 0) ≤ q) s.heap H1 locs1 → W p l e R s m args below meth c H1 locs1 55 151193 Q (F0 m 455 ls [])) : W p l e R s m args below meth c H locs 47 6420 Q (F0 m 390 ls []) := by
  have hx := hC.1.1
  have hb := hC.1.2.1
  have hown := hC.1.2.2.2.1
  have hts := hC.2.1
  have ho : cls 34 = 12 := rfl
  -- field 59, from 390
  refine lv_aload_n (k := 0) (i := 0) hx hb (dec_at okI_md 193 rfl) rfl (lv_at hl 0 rfl) ?_
  refine W.ldc (v := 137842) hx hb hown (hts _ (gk_5 157 rfl rfl)) rfl (dec_at okI_md 194 rfl) ?_
  refine W.eq (g2 := F0 m 393 ls [.int 137842, .ref (z + pos (34, 0))]) rfl ?_
  refine st_na hC hS hB hz (idx := 158) (ci := 12) (N := 71) (k := 59) (T := TX12) (kd := 4) (N' := 137842) (t0 := 1) (dv := .long 0) (x := 137842) (atype := .long) ho rfl (by decide) rfl (fun w => absurd w.2 (show ¬ 59 = 41 by decide)) (Or.inr (Or.inl ⟨rfl, rfl, rfl, rfl, rfl⟩)) ps_12_34_60 (gk_2 21 rfl rfl) (gk_5 216 rfl rfl) (by decide +kernel) (by decide +kernel) (by decide +kernel) (Nat.le_of_ble_eq_true rfl) (Nat.le_trans (Nat.le_of_ble_eq_true rfl) hR.1) (Nat.le_trans (Nat.le_of_ble_eq_true rfl) hR.2.1) (dec_at okI_md 195 rfl) (dec_at okI_md 196 rfl) (fun H1 locs1 hB1 hz1 hf1 hS1 => ?_)
  clear hB hz hS hf1
  have hB : CB D z (pos (34, 0) + 49) 34 (addS Smd_6 59) (fnL (adZ z) cA ((34, 60) :: dmd_6)) H1 := hB1
  have hz : H1.size = z + (pos (34, 0) + 49) := hz1
  have hS := hS1
  clear hB1 hz1 hS1
  -- field 60, from 398
  refine lv_aload_n (k := 0) (i := 0) hx hb (dec_at okI_md 197 rfl) rfl (lv_at hl 0 rfl) ?_
  refine lv_iconst (n := 3) (v := 3) hx hb (dec_at okI_md 198 rfl) (by decide +kernel) ?_
  refine st_na hC hS hB hz (idx := 161) (ci := 12) (N := 71) (k := 60) (T := TX12) (kd := 3) (N' := 3) (t0 := 0) (dv := .int 0) (x := 3) (atype := .int) ho rfl (by decide) rfl (fun w => absurd w.2 (show ¬ 60 = 41 by decide)) (Or.inl ⟨rfl, rfl, rfl, rfl, rfl⟩) ps_12_34_61 (gk_1 47 rfl rfl) (gk_5 217 rfl rfl) (by decide +kernel) (by decide +kernel) (by decide +kernel) (Nat.le_of_ble_eq_true rfl) (Nat.le_trans (Nat.le_of_ble_eq_true rfl) hR.1) (Nat.le_trans (Nat.le_of_ble_eq_true rfl) hR.2.1) (dec_at okI_md 199 rfl) (dec_at okI_md 200 rfl) (fun H1 locs1 hB1 hz1 hf1 hS1 => ?_)
  clear hB hz hS hf1
  have hB : CB D z (pos (34, 0) + 50) 34 (addS (addS Smd_6 59) 60) (fnL (adZ z) cA ((34, 61) :: ((34, 60) :: dmd_6))) H1 := hB1
  have hz : H1.size = z + (pos (34, 0) + 50) := hz1
  have hS := hS1
  clear hB1 hz1 hS1
  -- field 61, from 405
  refine lv_aload_n (k := 0) (i := 0) hx hb (dec_at okI_md 201 rfl) rfl (lv_at hl 0 rfl) ?_
  refine lv_iconst (n := 3) (v := 3) hx hb (dec_at okI_md 202 rfl) (by decide +kernel) ?_
  refine st_na hC hS hB hz (idx := 164) (ci := 12) (N := 71) (k := 61) (T := TX12) (kd := 3) (N' := 3) (t0 := 0) (dv := .int 0) (x := 3) (atype := .int) ho rfl (by decide) rfl (fun w => absurd w.2 (show ¬ 61 = 41 by decide)) (Or.inl ⟨rfl, rfl, rfl, rfl, rfl⟩) ps_12_34_62 (gk_1 47 rfl rfl) (gk_5 218 rfl rfl) (by decide +kernel) (by decide +kernel) (by decide +kernel) (Nat.le_of_ble_eq_true rfl) (Nat.le_trans (Nat.le_of_ble_eq_true rfl) hR.1) (Nat.le_trans (Nat.le_of_ble_eq_true rfl) hR.2.1) (dec_at okI_md 203 rfl) (dec_at okI_md 204 rfl) (fun H1 locs1 hB1 hz1 hf1 hS1 => ?_)
  clear hB hz hS hf1
  have hB : CB D z (pos (34, 0) + 51) 34 (addS (addS (addS Smd_6 59) 60) 61) (fnL (adZ z) cA ((34, 62) :: ((34, 61) :: ((34, 60) :: dmd_6)))) H1 := hB1
  have hz : H1.size = z + (pos (34, 0) + 51) := hz1
  have hS := hS1
  clear hB1 hz1 hS1
  -- field 63, from 412
  refine lv_aload_n (k := 0) (i := 0) hx hb (dec_at okI_md 205 rfl) rfl (lv_at hl 0 rfl) ?_
  refine lv_bipush (n := 81) (v := 81) hx hb (dec_at okI_md 206 rfl) (by decide +kernel) ?_
  refine st_na hC hS hB hz (idx := 167) (ci := 12) (N := 71) (k := 63) (T := TX12) (kd := 3) (N' := 81) (t0 := 0) (dv := .int 0) (x := 81) (atype := .int) ho rfl (by decide) rfl (fun w => absurd w.2 (show ¬ 63 = 41 by decide)) (Or.inl ⟨rfl, rfl, rfl, rfl, rfl⟩) ps_12_34_64 (gk_1 47 rfl rfl) (gk_5 220 rfl rfl) (by decide +kernel) (by decide +kernel) (by decide +kernel) (Nat.le_of_ble_eq_true rfl) (Nat.le_trans (Nat.le_of_ble_eq_true rfl) hR.1) (Nat.le_trans (Nat.le_of_ble_eq_true rfl) hR.2.1) (dec_at okI_md 207 rfl) (dec_at okI_md 208 rfl) (fun H1 locs1 hB1 hz1 hf1 hS1 => ?_)
  clear hB hz hS hf1
  have hB : CB D z (pos (34, 0) + 52) 34 (addS (addS (addS (addS Smd_6 59) 60) 61) 63) (fnL (adZ z) cA ((34, 64) :: ((34, 62) :: ((34, 61) :: ((34, 60) :: dmd_6))))) H1 := hB1
  have hz : H1.size = z + (pos (34, 0) + 52) := hz1
  have hS := hS1
  clear hB1 hz1 hS1
  -- field 64, from 420
  refine lv_aload_n (k := 0) (i := 0) hx hb (dec_at okI_md 209 rfl) rfl (lv_at hl 0 rfl) ?_
  refine lv_bipush (n := 10) (v := 10) hx hb (dec_at okI_md 210 rfl) (by decide +kernel) ?_
  refine st_na hC hS hB hz (idx := 170) (ci := 12) (N := 71) (k := 64) (T := TX12) (kd := 3) (N' := 10) (t0 := 0) (dv := .int 0) (x := 10) (atype := .int) ho rfl (by decide) rfl (fun w => absurd w.2 (show ¬ 64 = 41 by decide)) (Or.inl ⟨rfl, rfl, rfl, rfl, rfl⟩) ps_12_34_65 (gk_1 47 rfl rfl) (gk_5 221 rfl rfl) (by decide +kernel) (by decide +kernel) (by decide +kernel) (Nat.le_of_ble_eq_true rfl) (Nat.le_trans (Nat.le_of_ble_eq_true rfl) hR.1) (Nat.le_trans (Nat.le_of_ble_eq_true rfl) hR.2.1) (dec_at okI_md 211 rfl) (dec_at okI_md 212 rfl) (fun H1 locs1 hB1 hz1 hf1 hS1 => ?_)
  clear hB hz hS hf1
  have hB : CB D z (pos (34, 0) + 53) 34 (addS (addS (addS (addS (addS Smd_6 59) 60) 61) 63) 64) (fnL (adZ z) cA ((34, 65) :: ((34, 64) :: ((34, 62) :: ((34, 61) :: ((34, 60) :: dmd_6)))))) H1 := hB1
  have hz : H1.size = z + (pos (34, 0) + 53) := hz1
  have hS := hS1
  clear hB1 hz1 hS1
  -- field 65, from 428
  refine lv_aload_n (k := 0) (i := 0) hx hb (dec_at okI_md 213 rfl) rfl (lv_at hl 0 rfl) ?_
  refine lv_sipush (n := 1024) (v := 1024) hx hb (dec_at okI_md 214 rfl) (by decide +kernel) ?_
  refine st_na hC hS hB hz (idx := 173) (ci := 12) (N := 71) (k := 65) (T := TX12) (kd := 3) (N' := 1024) (t0 := 0) (dv := .int 0) (x := 1024) (atype := .int) ho rfl (by decide) rfl (fun w => absurd w.2 (show ¬ 65 = 41 by decide)) (Or.inl ⟨rfl, rfl, rfl, rfl, rfl⟩) ps_12_34_66 (gk_1 47 rfl rfl) (gk_5 222 rfl rfl) (by decide +kernel) (by decide +kernel) (by decide +kernel) (Nat.le_of_ble_eq_true rfl) (Nat.le_trans (Nat.le_of_ble_eq_true rfl) hR.1) (Nat.le_trans (Nat.le_of_ble_eq_true rfl) hR.2.1) (dec_at okI_md 215 rfl) (dec_at okI_md 216 rfl) (fun H1 locs1 hB1 hz1 hf1 hS1 => ?_)
  clear hB hz hS hf1
  have hB : CB D z (pos (34, 0) + 54) 34 (addS (addS (addS (addS (addS (addS Smd_6 59) 60) 61) 63) 64) 65) (fnL (adZ z) cA ((34, 66) :: ((34, 65) :: ((34, 64) :: ((34, 62) :: ((34, 61) :: ((34, 60) :: dmd_6))))))) H1 := hB1
  have hz : H1.size = z + (pos (34, 0) + 54) := hz1
  have hS := hS1
  clear hB1 hz1 hS1
  -- field 66, from 437
  refine lv_aload_n (k := 0) (i := 0) hx hb (dec_at okI_md 217 rfl) rfl (lv_at hl 0 rfl) ?_
  refine lv_sipush (n := 4810) (v := 4810) hx hb (dec_at okI_md 218 rfl) (by decide +kernel) ?_
  refine st_na hC hS hB hz (idx := 176) (ci := 12) (N := 71) (k := 66) (T := TX12) (kd := 3) (N' := 4810) (t0 := 0) (dv := .int 0) (x := 4810) (atype := .int) ho rfl (by decide) rfl (fun w => absurd w.2 (show ¬ 66 = 41 by decide)) (Or.inl ⟨rfl, rfl, rfl, rfl, rfl⟩) ps_12_34_67 (gk_1 47 rfl rfl) (gk_5 223 rfl rfl) (by decide +kernel) (by decide +kernel) (by decide +kernel) (Nat.le_of_ble_eq_true rfl) (Nat.le_trans (Nat.le_of_ble_eq_true rfl) hR.1) (Nat.le_trans (Nat.le_of_ble_eq_true rfl) hR.2.1) (dec_at okI_md 219 rfl) (dec_at okI_md 220 rfl) (fun H1 locs1 hB1 hz1 hf1 hS1 => ?_)
  clear hB hz hS hf1
  have hB : CB D z (pos (34, 0) + 55) 34 (addS (addS (addS (addS (addS (addS (addS Smd_6 59) 60) 61) 63) 64) 65) 66) (fnL (adZ z) cA ((34, 67) :: ((34, 66) :: ((34, 65) :: ((34, 64) :: ((34, 62) :: ((34, 61) :: ((34, 60) :: dmd_6)))))))) H1 := hB1
  have hz : H1.size = z + (pos (34, 0) + 55) := hz1
  have hS := hS1
  clear hB1 hz1 hS1
  -- field 67, from 446
  refine lv_aload_n (k := 0) (i := 0) hx hb (dec_at okI_md 221 rfl) rfl (lv_at hl 0 rfl) ?_
  refine lv_sipush (n := 1000) (v := 1000) hx hb (dec_at okI_md 222 rfl) (by decide +kernel) ?_
  refine st_na hC hS hB hz (idx := 179) (ci := 12) (N := 71) (k := 67) (T := TX12) (kd := 3) (N' := 1000) (t0 := 0) (dv := .int 0) (x := 1000) (atype := .int) ho rfl (by decide) rfl (fun w => absurd w.2 (show ¬ 67 = 41 by decide)) (Or.inl ⟨rfl, rfl, rfl, rfl, rfl⟩) ps_12_34_68 (gk_1 47 rfl rfl) (gk_5 224 rfl rfl) (by decide +kernel) (by decide +kernel) (by decide +kernel) (Nat.le_of_ble_eq_true rfl) (Nat.le_trans (Nat.le_of_ble_eq_true rfl) hR.1) (Nat.le_trans (Nat.le_of_ble_eq_true rfl) hR.2.1) (dec_at okI_md 223 rfl) (dec_at okI_md 224 rfl) (fun H1 locs1 hB1 hz1 hf1 hS1 => ?_)
  clear hB hz hS hf1
  have hB : CB D z (pos (34, 0) + 56) 34 (addS (addS (addS (addS (addS (addS (addS (addS Smd_6 59) 60) 61) 63) 64) 65) 66) 67) (fnL (adZ z) cA ((34, 68) :: ((34, 67) :: ((34, 66) :: ((34, 65) :: ((34, 64) :: ((34, 62) :: ((34, 61) :: ((34, 60) :: dmd_6))))))))) H1 := hB1
  have hz : H1.size = z + (pos (34, 0) + 56) := hz1
  have hS := hS1
  clear hB1 hz1 hS1
  exact kk _ _ hB hz hS
def Smd_8 : Nat → Bool := (addS Smd_7 68)
def dmd_8 : List (Nat × Nat) := ((34, 69) :: dmd_7)
set_option maxHeartbeats 4000000 in
set_option maxRecDepth 100000 in
theorem c_md_8 {p : Program} {l : Launch} {e : Env} {R : Room} {s : State} {m : MethodId} {args : Array Value} {below : List Frame} {meth : Method} {c : Code} {H : Heap} {locs : List Loc} {Q : State → Prop} {ls : Array Slot} {D : va_G} {cA : Nat → ClassId} {z : Nat} (hC : CIc p s m args meth c cX12_init 1 D cA RX12) (hex : exN s) (hR : 56 ≤ R.cells ∧ 151197 ≤ R.slots ∧ 1 ≤ R.frames ∧ 40 ≤ R.locals) (hS : va_S (fun q => z + pos (34, 0) ≤ q) s.heap H locs) (hB : CB D z (pos (34, 0) + 56) 34 Smd_7 (fnL (adZ z) cA dmd_7) H) (hz : H.size = z + (pos (34, 0) + 56)) (hl : lv_has ls 1 [(0, .ref (z + pos (34, 0)))])
    (kk : ∀ (H1 : Heap) (locs1 : List Loc), CB D z (pos (34, 0) + 57) 34 Smd_8 (fnL (adZ z) cA dmd_8) H1 → H1.size = z + (pos (34, 0) + 57) → va_S (fun q => z + pos (34, 0) ≤ q) s.heap H1 locs1 → W p l e R s m args below meth c H1 locs1 56 151197 Q (F0 m 462 ls [])) : W p l e R s m args below meth c H locs 55 151193 Q (F0 m 455 ls []) := by
  have hx := hC.1.1
  have hb := hC.1.2.1
  have hown := hC.1.2.2.2.1
  have hts := hC.2.1
  have ho : cls 34 = 12 := rfl
  -- field 68, from 455
  refine lv_aload_n (k := 0) (i := 0) hx hb (dec_at okI_md 225 rfl) rfl (lv_at hl 0 rfl) ?_
  refine lv_iconst (n := 4) (v := 4) hx hb (dec_at okI_md 226 rfl) (by decide +kernel) ?_
  refine st_na hC hS hB hz (idx := 182) (ci := 12) (N := 71) (k := 68) (T := TX12) (kd := 5) (N' := 4) (t0 := 2) (dv := .int 0) (x := 4) (atype := .boolean) ho rfl (by decide) rfl (fun w => absurd w.2 (show ¬ 68 = 41 by decide)) (Or.inr (Or.inr (Or.inl ⟨rfl, rfl, rfl, rfl, rfl⟩))) ps_12_34_69 (gk_2 44 rfl rfl) (gk_5 225 rfl rfl) (by decide +kernel) (by decide +kernel) (by decide +kernel) (Nat.le_of_ble_eq_true rfl) (Nat.le_trans (Nat.le_of_ble_eq_true rfl) hR.1) (Nat.le_trans (Nat.le_of_ble_eq_true rfl) hR.2.1) (dec_at okI_md 227 rfl) (dec_at okI_md 228 rfl) (fun H1 locs1 hB1 hz1 hf1 hS1 => ?_)
  clear hB hz hS hf1
  have hB : CB D z (pos (34, 0) + 57) 34 (addS Smd_7 68) (fnL (adZ z) cA ((34, 69) :: dmd_7)) H1 := hB1
  have hz : H1.size = z + (pos (34, 0) + 57) := hz1
  have hS := hS1
  clear hB1 hz1 hS1
  exact kk _ _ hB hz hS
set_option maxHeartbeats 4000000 in
set_option maxRecDepth 100000 in
theorem c_md : CM yX12_init cX12_init 1 34 1 56 151197 (ds_12 34) (fun _ => []) := by
  intro l D cA z
  have ho : cls 34 = 12 := rfl
  refine Met.ofW (cc := cX12_init) (maxL := 1) (ret := none) (by decide) rfl ?_
  intro p e s m args below meth c s₁ B hml hv
  obtain ⟨rfl, hz, he, hK, hex⟩ := hv
  have hx := B.exec
  have hb := B.bytes
  have hr := B.returns
  have hts0 := atoms_spec (ws := .code yX12_init cX12_init 1 none :: gtb) B.pre
  have hown : s.vm.findClass RX12 = some m.cls := findClass_of_methodNamed B.named
  have hlocks := B.notSynchronized
  have hin : meth.name = "<init>" := (name_of_methodNamed B.named B.method).1
  have hts : ∀ w ∈ gtb, w.before _ s = true := fun w h => hts0 w (List.mem_cons_of_mem _ h)
  have hC : CIc p s m _ meth c cX12_init 1 D cA RX12 := ⟨⟨hx, hb, hml, hown, hin⟩, hts, hK⟩
  have hS : va_S (fun q => z + pos (34, 0) ≤ q) s.heap s.heap [] := va_S.rf
  have hB : CB D z (pos (34, 0) + 1) 34 (fun _ => false) (fnL (adZ z) cA []) s.heap := ⟨by omega, he, fun q hq => by cases hq⟩
  have hz : s.heap.size = z + (pos (34, 0) + 1) := by omega
  have hl := lv_entry ([.ref (z + pos (34, 0))]) (n := 1) (Nat.le_of_ble_eq_true rfl)
  rw [lg_entry_eq]
  generalize (lg_sl ([.ref (z + pos (34, 0))]) ++ List.replicate (1 - (lg_sl ([.ref (z + pos (34, 0))])).length) Slot.unset).toArray = ls at hl ⊢
  have hl : lv_has ls 1 [(0, .ref (z + pos (34, 0)))] := hl
  refine lv_aload_n (k := 0) (i := 0) hx hb (dec_at okI_md 0 rfl) rfl (lv_at hl 0 rfl) ?_
  refine W.objInit hx hb hown (hts _ (gk_5 156 rfl rfl)) (hts _ (gk_1 26 rfl rfl)) (hts _ (gk_1 27 rfl rfl)) rfl (by rw [hml]; exact hl.1) rfl (dec_at okI_md 1 rfl) (Nat.le_of_ble_eq_true rfl) (Nat.le_of_ble_eq_true rfl) ?_
  refine W.eq (g2 := F0 m 4 ls []) rfl ?_
  have hR : 56 ≤ (rmI 1 56 151197).cells ∧ 151197 ≤ (rmI 1 56 151197).slots ∧ 1 ≤ (rmI 1 56 151197).frames ∧ 40 ≤ (rmI 1 56 151197).locals := ⟨Nat.le_refl _, Nat.le_refl _, Nat.le_refl _, Nat.le_refl _⟩
  have hB : CB D z (pos (34, 0) + 1) 34 Smd_0 (fnL (adZ z) cA dmd_0) s.heap := hB
  refine c_md_1 hC hex hR hS hB hz hl (fun H1 locs1 hB1 hz1 hS1 => ?_)
  clear hB hz hS
  have hB := hB1
  have hz := hz1
  have hS := hS1
  clear hB1 hz1 hS1
  refine c_md_2 hC hex hR hS hB hz hl (fun H1 locs1 hB1 hz1 hS1 => ?_)
  clear hB hz hS
  have hB := hB1
  have hz := hz1
  have hS := hS1
  clear hB1 hz1 hS1
  refine c_md_3 hC hex hR hS hB hz hl (fun H1 locs1 hB1 hz1 hS1 => ?_)
  clear hB hz hS
  have hB := hB1
  have hz := hz1
  have hS := hS1
  clear hB1 hz1 hS1
  refine c_md_4 hC hex hR hS hB hz hl (fun H1 locs1 hB1 hz1 hS1 => ?_)
  clear hB hz hS
  have hB := hB1
  have hz := hz1
  have hS := hS1
  clear hB1 hz1 hS1
  refine c_md_5 hC hex hR hS hB hz hl (fun H1 locs1 hB1 hz1 hS1 => ?_)
  clear hB hz hS
  have hB := hB1
  have hz := hz1
  have hS := hS1
  clear hB1 hz1 hS1
  refine c_md_6 hC hex hR hS hB hz hl (fun H1 locs1 hB1 hz1 hS1 => ?_)
  clear hB hz hS
  have hB := hB1
  have hz := hz1
  have hS := hS1
  clear hB1 hz1 hS1
  refine c_md_7 hC hex hR hS hB hz hl (fun H1 locs1 hB1 hz1 hS1 => ?_)
  clear hB hz hS
  have hB := hB1
  have hz := hz1
  have hS := hS1
  clear hB1 hz1 hS1
  refine c_md_8 hC hex hR hS hB hz hl (fun H1 locs1 hB1 hz1 hS1 => ?_)
  clear hB hz hS
  have hB := hB1
  have hz := hz1
  have hS := hS1
  clear hB1 hz1 hS1
  refine W.widen (k := 56) (n := 151197) (Nat.le_of_ble_eq_true rfl) (Nat.le_of_ble_eq_true rfl) ?_
  have hfull : ∀ j, j < nF (cls 34) → Smd_8 j = true ∨ fieldV (adZ z) s0 34 j = dvF (ftab (cls 34) j).1 := by
    intro j hj
    rw [ho] at hj ⊢
    have hd : ∀ j, j < nF 12 → Smd_8 j = true ∨ (ftab 12 j).1 < 3 := by decide +kernel
    by_cases q : Smd_8 j = true
    · exact Or.inl q
    · refine Or.inr ?_
      have h3 := (hd j hj).resolve_left q
      rw [← ho] at h3 ⊢
      refine fv_def h3 (if_neg (fun w => ?_))
      exact q (by rw [w.2]; rfl)
  refine W.vret hx hb hr (fun t ht hW => ⟨⟨(), rfl, trivial, by rw [ht]; omega, fun d hd => ?_⟩, hS.F ht⟩) hS.2.2 (dec_at okI_md 229 rfl)
  rw [ht]
  rcases List.mem_cons.mp hd with rfl | hd
  · have h9 := hB.2.1
    rw [fsK_full (cA := cA) hfull] at h9
    exact h9
  · exact (hB.2.2 (d, kcell (adZ z) cA s0 d) (List.mem_map.mpr ⟨d, hd, rfl⟩)).1
