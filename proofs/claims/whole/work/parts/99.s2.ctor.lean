/-! ===== constructors: each on its own ===== -/
set_option maxHeartbeats 4000000 in
set_option maxRecDepth 100000 in
theorem c_tx : CM yX8_init cX8_init 1 1 1 1 400 (ds_8 1) (fun _ => []) := by
  intro l D cA z
  have ho : cls 1 = 8 := rfl
  have h35 : 1 < 35 := by decide
  have hp_f0 := ps_8 1 h35 ho
  refine Met.ofW (cc := cX8_init) (maxL := 1) (ret := none) (by decide) rfl ?_
  intro p e s m args below meth c s₁ B hml hv
  obtain ⟨rfl, hz, he, hK, hex⟩ := hv
  have hx := B.exec
  have hb := B.bytes
  have hr := B.returns
  have hts0 := atoms_spec (ws := .code yX8_init cX8_init 1 none :: gtb) B.pre
  have hown : s.vm.findClass RX8 = some m.cls := findClass_of_methodNamed B.named
  have hlocks := B.notSynchronized
  have hin : meth.name = "<init>" := (name_of_methodNamed B.named B.method).1
  have hts : ∀ w ∈ gtb, w.before _ s = true := fun w h => hts0 w (List.mem_cons_of_mem _ h)
  have hC : CIc p s m _ meth c cX8_init 1 D cA RX8 := ⟨⟨hx, hb, hml, hown, hin⟩, hts, hK⟩
  have hS : va_S (fun q => z + pos (1, 0) ≤ q) s.heap s.heap [] := va_S.rf
  have hB : CB D z (pos (1, 0) + 1) 1 (fun _ => false) (fnL (adZ z) cA []) s.heap := ⟨by omega, he, fun q hq => by cases hq⟩
  have hz : s.heap.size = z + (pos (1, 0) + 1) := by omega
  have hl := lv_entry ([.ref (z + pos (1, 0))]) (n := 1) (Nat.le_of_ble_eq_true rfl)
  rw [lg_entry_eq]
  generalize (lg_sl ([.ref (z + pos (1, 0))]) ++ List.replicate (1 - (lg_sl ([.ref (z + pos (1, 0))])).length) Slot.unset).toArray = ls at hl ⊢
  have hl : lv_has ls 1 [(0, .ref (z + pos (1, 0)))] := hl
  refine lv_aload_n (k := 0) (i := 0) hx hb (show decode cX8_init 0 = .ok (.aload_n 0, 1) by decide +kernel) rfl (lv_at hl 0 rfl) ?_
  refine W.objInit hx hb hown (hts _ (gk_1 33 rfl rfl)) (hts _ (gk_1 26 rfl rfl)) (hts _ (gk_1 27 rfl rfl)) rfl (by rw [hml]; exact hl.1) rfl (show decode cX8_init 1 = .ok (.invokespecial 3, 3) by decide +kernel) (Nat.le_of_ble_eq_true rfl) (Nat.le_of_ble_eq_true rfl) ?_
  refine W.eq (g2 := F0 m 4 ls []) rfl ?_
  -- field 0, from 4
  refine lv_aload_n (k := 0) (i := 0) hx hb (show decode cX8_init 4 = .ok (.aload_n 0, 1) by decide +kernel) rfl (lv_at hl 0 rfl) ?_
  refine lv_sipush (n := 400) (v := 400) hx hb (show decode cX8_init 5 = .ok (.sipush 400, 3) by decide +kernel) (by decide +kernel) ?_
  refine st_na hC hS hB hz (idx := 11) (ci := 8) (N := 3) (k := 0) (T := TX8) (kd := 3) (N' := 400) (t0 := 0) (dv := .int 0) (x := 400) (atype := .int) ho rfl (by decide) rfl (fun w => absurd w.2 (show ¬ 0 = 41 by decide)) (Or.inl ⟨rfl, rfl, rfl, rfl, rfl⟩) hp_f0 (gk_1 47 rfl rfl) (gk_1 34 rfl rfl) (by decide +kernel) (by decide +kernel) (by decide +kernel) (Nat.le_of_ble_eq_true rfl) (Nat.le_of_ble_eq_true rfl) (Nat.le_of_ble_eq_true rfl) (show decode cX8_init 8 = .ok (.newarray .int, 2) by decide +kernel) (show decode cX8_init 10 = .ok (.putfield 11, 3) by decide +kernel) (fun H1 locs1 hB1 hz1 hf1 hS1 => ?_)
  clear hB hz hS hf1
  have hB : CB D z (pos (1, 0) + 2) 1 (addS (fun _ => false) 0) (fnL (adZ z) cA ((1, 1) :: [])) H1 := hB1
  have hz : H1.size = z + (pos (1, 0) + 2) := hz1
  have hS := hS1
  clear hB1 hz1 hS1
  refine W.widen (k := 1) (n := 400) (Nat.le_of_ble_eq_true rfl) (Nat.le_of_ble_eq_true rfl) ?_
  have hfull : ∀ j, j < nF (cls 1) → (addS (fun _ => false) 0) j = true ∨ fieldV (adZ z) s0 1 j = dvF (ftab (cls 1) j).1 := by
    intro j hj
    rw [ho] at hj ⊢
    have hd : ∀ j, j < nF 8 → (addS (fun _ => false) 0) j = true ∨ (ftab 8 j).1 < 3 := by decide +kernel
    by_cases q : (addS (fun _ => false) 0) j = true
    · exact Or.inl q
    · refine Or.inr ?_
      have h3 := (hd j hj).resolve_left q
      rw [← ho] at h3 ⊢
      refine fv_def h3 (if_neg (fun w => ?_))
      obtain ⟨w, _⟩ := w
      exact absurd w (by decide)
  refine W.vret hx hb hr (fun t ht hW => ⟨⟨(), rfl, trivial, by rw [ht]; omega, fun d hd => ?_⟩, hS.F ht⟩) hS.2.2 (show decode cX8_init 13 = .ok (.return_, 1) by decide +kernel)
  rw [ht]
  rcases List.mem_cons.mp hd with rfl | hd
  · have h9 := hB.2.1
    rw [fsK_full (cA := cA) hfull] at h9
    exact h9
  · exact (hB.2.2 (d, kcell (adZ z) cA s0 d) (List.mem_map.mpr ⟨d, hd, rfl⟩)).1
set_option maxHeartbeats 4000000 in
set_option maxRecDepth 100000 in
theorem c_ru {o : Nat} (ho : cls o = 2) : CM yX2_init cX2_init 1 o 1 6 488 (ds_2 o) (fun _ => []) := by
  intro l D cA z
  have h35 : o < 35 := cls_lt ho (by decide)
  obtain ⟨hp_f0, hp_f2, hp_f3, hp_f4, hp_f5, hp_f7⟩ := ps_2 o h35 ho
  refine Met.ofW (cc := cX2_init) (maxL := 1) (ret := none) (by decide) rfl ?_
  intro p e s m args below meth c s₁ B hml hv
  obtain ⟨rfl, hz, he, hK, hex⟩ := hv
  have hx := B.exec
  have hb := B.bytes
  have hr := B.returns
  have hts0 := atoms_spec (ws := .code yX2_init cX2_init 1 none :: gtb) B.pre
  have hown : s.vm.findClass RX2 = some m.cls := findClass_of_methodNamed B.named
  have hlocks := B.notSynchronized
  have hin : meth.name = "<init>" := (name_of_methodNamed B.named B.method).1
  have hts : ∀ w ∈ gtb, w.before _ s = true := fun w h => hts0 w (List.mem_cons_of_mem _ h)
  have hC : CIc p s m _ meth c cX2_init 1 D cA RX2 := ⟨⟨hx, hb, hml, hown, hin⟩, hts, hK⟩
  have hS : va_S (fun q => z + pos (o, 0) ≤ q) s.heap s.heap [] := va_S.rf
  have hB : CB D z (pos (o, 0) + 1) o (fun _ => false) (fnL (adZ z) cA []) s.heap := ⟨by omega, he, fun q hq => by cases hq⟩
  have hz : s.heap.size = z + (pos (o, 0) + 1) := by omega
  have hl := lv_entry ([.ref (z + pos (o, 0))]) (n := 1) (Nat.le_of_ble_eq_true rfl)
  rw [lg_entry_eq]
  generalize (lg_sl ([.ref (z + pos (o, 0))]) ++ List.replicate (1 - (lg_sl ([.ref (z + pos (o, 0))])).length) Slot.unset).toArray = ls at hl ⊢
  have hl : lv_has ls 1 [(0, .ref (z + pos (o, 0)))] := hl
  refine lv_aload_n (k := 0) (i := 0) hx hb (show decode cX2_init 0 = .ok (.aload_n 0, 1) by decide +kernel) rfl (lv_at hl 0 rfl) ?_
  refine W.objInit hx hb hown (hts _ (gk_2 56 rfl rfl)) (hts _ (gk_1 26 rfl rfl)) (hts _ (gk_1 27 rfl rfl)) rfl (by rw [hml]; exact hl.1) rfl (show decode cX2_init 1 = .ok (.invokespecial 3, 3) by decide +kernel) (Nat.le_of_ble_eq_true rfl) (Nat.le_of_ble_eq_true rfl) ?_
  refine W.eq (g2 := F0 m 4 ls []) rfl ?_
  -- field 0, from 4
  refine lv_aload_n (k := 0) (i := 0) hx hb (show decode cX2_init 4 = .ok (.aload_n 0, 1) by decide +kernel) rfl (lv_at hl 0 rfl) ?_
  refine lv_sipush (n := 400) (v := 400) hx hb (show decode cX2_init 5 = .ok (.sipush 400, 3) by decide +kernel) (by decide +kernel) ?_
  refine st_na hC hS hB hz (idx := 11) (ci := 2) (N := 8) (k := 0) (T := TX2) (kd := 3) (N' := 400) (t0 := 0) (dv := .int 0) (x := 400) (atype := .int) ho rfl (by decide) rfl (fun w => absurd w.2 (show ¬ 0 = 41 by decide)) (Or.inl ⟨rfl, rfl, rfl, rfl, rfl⟩) hp_f0 (gk_1 47 rfl rfl) (gk_2 57 rfl rfl) (by decide +kernel) (by decide +kernel) (by decide +kernel) (Nat.le_of_ble_eq_true rfl) (Nat.le_of_ble_eq_true rfl) (Nat.le_of_ble_eq_true rfl) (show decode cX2_init 8 = .ok (.newarray .int, 2) by decide +kernel) (show decode cX2_init 10 = .ok (.putfield 11, 3) by decide +kernel) (fun H1 locs1 hB1 hz1 hf1 hS1 => ?_)
  clear hB hz hS hf1
  have hB : CB D z (pos (o, 0) + 2) o (addS (fun _ => false) 0) (fnL (adZ z) cA ((o, 1) :: [])) H1 := hB1
  have hz : H1.size = z + (pos (o, 0) + 2) := hz1
  have hS := hS1
  clear hB1 hz1 hS1
  -- field 2, from 13
  refine lv_aload_n (k := 0) (i := 0) hx hb (show decode cX2_init 13 = .ok (.aload_n 0, 1) by decide +kernel) rfl (lv_at hl 0 rfl) ?_
  refine lv_bipush (n := 12) (v := 12) hx hb (show decode cX2_init 14 = .ok (.bipush 12, 2) by decide +kernel) (by decide +kernel) ?_
  refine st_na hC hS hB hz (idx := 17) (ci := 2) (N := 8) (k := 2) (T := TX2) (kd := 5) (N' := 12) (t0 := 2) (dv := .int 0) (x := 12) (atype := .boolean) ho rfl (by decide) rfl (fun w => absurd w.2 (show ¬ 2 = 41 by decide)) (Or.inr (Or.inr (Or.inl ⟨rfl, rfl, rfl, rfl, rfl⟩))) hp_f2 (gk_2 44 rfl rfl) (gk_2 59 rfl rfl) (by decide +kernel) (by decide +kernel) (by decide +kernel) (Nat.le_of_ble_eq_true rfl) (Nat.le_of_ble_eq_true rfl) (Nat.le_of_ble_eq_true rfl) (show decode cX2_init 16 = .ok (.newarray .boolean, 2) by decide +kernel) (show decode cX2_init 18 = .ok (.putfield 17, 3) by decide +kernel) (fun H1 locs1 hB1 hz1 hf1 hS1 => ?_)
  clear hB hz hS hf1
  have hB : CB D z (pos (o, 0) + 3) o (addS (addS (fun _ => false) 0) 2) (fnL (adZ z) cA ((o, 3) :: ((o, 1) :: []))) H1 := hB1
  have hz : H1.size = z + (pos (o, 0) + 3) := hz1
  have hS := hS1
  clear hB1 hz1 hS1
  -- field 3, from 21
  refine lv_aload_n (k := 0) (i := 0) hx hb (show decode cX2_init 21 = .ok (.aload_n 0, 1) by decide +kernel) rfl (lv_at hl 0 rfl) ?_
  refine lv_bipush (n := 12) (v := 12) hx hb (show decode cX2_init 22 = .ok (.bipush 12, 2) by decide +kernel) (by decide +kernel) ?_
  refine st_na hC hS hB hz (idx := 21) (ci := 2) (N := 8) (k := 3) (T := TX2) (kd := 3) (N' := 12) (t0 := 0) (dv := .int 0) (x := 12) (atype := .int) ho rfl (by decide) rfl (fun w => absurd w.2 (show ¬ 3 = 41 by decide)) (Or.inl ⟨rfl, rfl, rfl, rfl, rfl⟩) hp_f3 (gk_1 47 rfl rfl) (gk_2 60 rfl rfl) (by decide +kernel) (by decide +kernel) (by decide +kernel) (Nat.le_of_ble_eq_true rfl) (Nat.le_of_ble_eq_true rfl) (Nat.le_of_ble_eq_true rfl) (show decode cX2_init 24 = .ok (.newarray .int, 2) by decide +kernel) (show decode cX2_init 26 = .ok (.putfield 21, 3) by decide +kernel) (fun H1 locs1 hB1 hz1 hf1 hS1 => ?_)
  clear hB hz hS hf1
  have hB : CB D z (pos (o, 0) + 4) o (addS (addS (addS (fun _ => false) 0) 2) 3) (fnL (adZ z) cA ((o, 4) :: ((o, 3) :: ((o, 1) :: [])))) H1 := hB1
  have hz : H1.size = z + (pos (o, 0) + 4) := hz1
  have hS := hS1
  clear hB1 hz1 hS1
  -- field 4, from 29
  refine lv_aload_n (k := 0) (i := 0) hx hb (show decode cX2_init 29 = .ok (.aload_n 0, 1) by decide +kernel) rfl (lv_at hl 0 rfl) ?_
  refine lv_bipush (n := 12) (v := 12) hx hb (show decode cX2_init 30 = .ok (.bipush 12, 2) by decide +kernel) (by decide +kernel) ?_
  refine st_na hC hS hB hz (idx := 24) (ci := 2) (N := 8) (k := 4) (T := TX2) (kd := 3) (N' := 12) (t0 := 0) (dv := .int 0) (x := 12) (atype := .int) ho rfl (by decide) rfl (fun w => absurd w.2 (show ¬ 4 = 41 by decide)) (Or.inl ⟨rfl, rfl, rfl, rfl, rfl⟩) hp_f4 (gk_1 47 rfl rfl) (gk_2 61 rfl rfl) (by decide +kernel) (by decide +kernel) (by decide +kernel) (Nat.le_of_ble_eq_true rfl) (Nat.le_of_ble_eq_true rfl) (Nat.le_of_ble_eq_true rfl) (show decode cX2_init 32 = .ok (.newarray .int, 2) by decide +kernel) (show decode cX2_init 34 = .ok (.putfield 24, 3) by decide +kernel) (fun H1 locs1 hB1 hz1 hf1 hS1 => ?_)
  clear hB hz hS hf1
  have hB : CB D z (pos (o, 0) + 5) o (addS (addS (addS (addS (fun _ => false) 0) 2) 3) 4) (fnL (adZ z) cA ((o, 5) :: ((o, 4) :: ((o, 3) :: ((o, 1) :: []))))) H1 := hB1
  have hz : H1.size = z + (pos (o, 0) + 5) := hz1
  have hS := hS1
  clear hB1 hz1 hS1
  -- field 5, from 37
  refine lv_aload_n (k := 0) (i := 0) hx hb (show decode cX2_init 37 = .ok (.aload_n 0, 1) by decide +kernel) rfl (lv_at hl 0 rfl) ?_
  refine lv_bipush (n := 12) (v := 12) hx hb (show decode cX2_init 38 = .ok (.bipush 12, 2) by decide +kernel) (by decide +kernel) ?_
  refine st_na hC hS hB hz (idx := 27) (ci := 2) (N := 8) (k := 5) (T := TX2) (kd := 3) (N' := 12) (t0 := 0) (dv := .int 0) (x := 12) (atype := .int) ho rfl (by decide) rfl (fun w => absurd w.2 (show ¬ 5 = 41 by decide)) (Or.inl ⟨rfl, rfl, rfl, rfl, rfl⟩) hp_f5 (gk_1 47 rfl rfl) (gk_2 62 rfl rfl) (by decide +kernel) (by decide +kernel) (by decide +kernel) (Nat.le_of_ble_eq_true rfl) (Nat.le_of_ble_eq_true rfl) (Nat.le_of_ble_eq_true rfl) (show decode cX2_init 40 = .ok (.newarray .int, 2) by decide +kernel) (show decode cX2_init 42 = .ok (.putfield 27, 3) by decide +kernel) (fun H1 locs1 hB1 hz1 hf1 hS1 => ?_)
  clear hB hz hS hf1
  have hB : CB D z (pos (o, 0) + 6) o (addS (addS (addS (addS (addS (fun _ => false) 0) 2) 3) 4) 5) (fnL (adZ z) cA ((o, 6) :: ((o, 5) :: ((o, 4) :: ((o, 3) :: ((o, 1) :: [])))))) H1 := hB1
  have hz : H1.size = z + (pos (o, 0) + 6) := hz1
  have hS := hS1
  clear hB1 hz1 hS1
  -- field 7, from 45
  refine lv_aload_n (k := 0) (i := 0) hx hb (show decode cX2_init 45 = .ok (.aload_n 0, 1) by decide +kernel) rfl (lv_at hl 0 rfl) ?_
  refine lv_bipush (n := 40) (v := 40) hx hb (show decode cX2_init 46 = .ok (.bipush 40, 2) by decide +kernel) (by decide +kernel) ?_
  refine st_na hC hS hB hz (idx := 30) (ci := 2) (N := 8) (k := 7) (T := TX2) (kd := 4) (N' := 40) (t0 := 1) (dv := .long 0) (x := 40) (atype := .long) ho rfl (by decide) rfl (fun w => absurd w.2 (show ¬ 7 = 41 by decide)) (Or.inr (Or.inl ⟨rfl, rfl, rfl, rfl, rfl⟩)) hp_f7 (gk_2 21 rfl rfl) (gk_2 64 rfl rfl) (by decide +kernel) (by decide +kernel) (by decide +kernel) (Nat.le_of_ble_eq_true rfl) (Nat.le_of_ble_eq_true rfl) (Nat.le_of_ble_eq_true rfl) (show decode cX2_init 48 = .ok (.newarray .long, 2) by decide +kernel) (show decode cX2_init 50 = .ok (.putfield 30, 3) by decide +kernel) (fun H1 locs1 hB1 hz1 hf1 hS1 => ?_)
  clear hB hz hS hf1
  have hB : CB D z (pos (o, 0) + 7) o (addS (addS (addS (addS (addS (addS (fun _ => false) 0) 2) 3) 4) 5) 7) (fnL (adZ z) cA ((o, 8) :: ((o, 6) :: ((o, 5) :: ((o, 4) :: ((o, 3) :: ((o, 1) :: []))))))) H1 := hB1
  have hz : H1.size = z + (pos (o, 0) + 7) := hz1
  have hS := hS1
  clear hB1 hz1 hS1
  refine W.widen (k := 6) (n := 488) (Nat.le_of_ble_eq_true rfl) (Nat.le_of_ble_eq_true rfl) ?_
  have hfull : ∀ j, j < nF (cls o) → (addS (addS (addS (addS (addS (addS (fun _ => false) 0) 2) 3) 4) 5) 7) j = true ∨ fieldV (adZ z) s0 o j = dvF (ftab (cls o) j).1 := by
    intro j hj
    rw [ho] at hj ⊢
    have hd : ∀ j, j < nF 2 → (addS (addS (addS (addS (addS (addS (fun _ => false) 0) 2) 3) 4) 5) 7) j = true ∨ (ftab 2 j).1 < 3 := by decide +kernel
    by_cases q : (addS (addS (addS (addS (addS (addS (fun _ => false) 0) 2) 3) 4) 5) 7) j = true
    · exact Or.inl q
    · refine Or.inr ?_
      have h3 := (hd j hj).resolve_left q
      rw [← ho] at h3 ⊢
      refine fv_def h3 (if_neg (fun w => ?_))
      obtain ⟨w, _⟩ := w
      rw [w] at ho; exact absurd ho (by decide)
  refine W.vret hx hb hr (fun t ht hW => ⟨⟨(), rfl, trivial, by rw [ht]; omega, fun d hd => ?_⟩, hS.F ht⟩) hS.2.2 (show decode cX2_init 53 = .ok (.return_, 1) by decide +kernel)
  rw [ht]
  rcases List.mem_cons.mp hd with rfl | hd
  · have h9 := hB.2.1
    rw [fsK_full (cA := cA) hfull] at h9
    exact h9
  · exact (hB.2.2 (d, kcell (adZ z) cA s0 d) (List.mem_map.mpr ⟨d, hd, rfl⟩)).1
set_option maxHeartbeats 4000000 in
set_option maxRecDepth 100000 in
theorem c_sh {o : Nat} (ho : cls o = 5) : CM yX5_init cX5_init 1 o 1 9 104 (ds_5 o) (fun _ => []) := by
  intro l D cA z
  have h35 : o < 35 := cls_lt ho (by decide)
  obtain ⟨hp_f0, hp_f1, hp_f2, hp_f3, hp_f5, hp_f6, hp_f11, hp_f12, hp_f13⟩ := ps_5 o h35 ho
  refine Met.ofW (cc := cX5_init) (maxL := 1) (ret := none) (by decide) rfl ?_
  intro p e s m args below meth c s₁ B hml hv
  obtain ⟨rfl, hz, he, hK, hex⟩ := hv
  have hx := B.exec
  have hb := B.bytes
  have hr := B.returns
  have hts0 := atoms_spec (ws := .code yX5_init cX5_init 1 none :: gtb) B.pre
  have hown : s.vm.findClass RX5 = some m.cls := findClass_of_methodNamed B.named
  have hlocks := B.notSynchronized
  have hin : meth.name = "<init>" := (name_of_methodNamed B.named B.method).1
  have hts : ∀ w ∈ gtb, w.before _ s = true := fun w h => hts0 w (List.mem_cons_of_mem _ h)
  have hC : CIc p s m _ meth c cX5_init 1 D cA RX5 := ⟨⟨hx, hb, hml, hown, hin⟩, hts, hK⟩
  have hS : va_S (fun q => z + pos (o, 0) ≤ q) s.heap s.heap [] := va_S.rf
  have hB : CB D z (pos (o, 0) + 1) o (fun _ => false) (fnL (adZ z) cA []) s.heap := ⟨by omega, he, fun q hq => by cases hq⟩
  have hz : s.heap.size = z + (pos (o, 0) + 1) := by omega
  have hl := lv_entry ([.ref (z + pos (o, 0))]) (n := 1) (Nat.le_of_ble_eq_true rfl)
  rw [lg_entry_eq]
  generalize (lg_sl ([.ref (z + pos (o, 0))]) ++ List.replicate (1 - (lg_sl ([.ref (z + pos (o, 0))])).length) Slot.unset).toArray = ls at hl ⊢
  have hl : lv_has ls 1 [(0, .ref (z + pos (o, 0)))] := hl
  refine lv_aload_n (k := 0) (i := 0) hx hb (show decode cX5_init 0 = .ok (.aload_n 0, 1) by decide +kernel) rfl (lv_at hl 0 rfl) ?_
  refine W.objInit hx hb hown (hts _ (gk_1 59 rfl rfl)) (hts _ (gk_1 26 rfl rfl)) (hts _ (gk_1 27 rfl rfl)) rfl (by rw [hml]; exact hl.1) rfl (show decode cX5_init 1 = .ok (.invokespecial 3, 3) by decide +kernel) (Nat.le_of_ble_eq_true rfl) (Nat.le_of_ble_eq_true rfl) ?_
  refine W.eq (g2 := F0 m 4 ls []) rfl ?_
  -- field 0, from 4
  refine lv_aload_n (k := 0) (i := 0) hx hb (show decode cX5_init 4 = .ok (.aload_n 0, 1) by decide +kernel) rfl (lv_at hl 0 rfl) ?_
  refine lv_bipush (n := 12) (v := 12) hx hb (show decode cX5_init 5 = .ok (.bipush 12, 2) by decide +kernel) (by decide +kernel) ?_
  refine st_na hC hS hB hz (idx := 11) (ci := 5) (N := 17) (k := 0) (T := TX5) (kd := 3) (N' := 12) (t0 := 0) (dv := .int 0) (x := 12) (atype := .int) ho rfl (by decide) rfl (fun w => absurd w.2 (show ¬ 0 = 41 by decide)) (Or.inl ⟨rfl, rfl, rfl, rfl, rfl⟩) hp_f0 (gk_1 47 rfl rfl) (gk_1 60 rfl rfl) (by decide +kernel) (by decide +kernel) (by decide +kernel) (Nat.le_of_ble_eq_true rfl) (Nat.le_of_ble_eq_true rfl) (Nat.le_of_ble_eq_true rfl) (show decode cX5_init 7 = .ok (.newarray .int, 2) by decide +kernel) (show decode cX5_init 9 = .ok (.putfield 11, 3) by decide +kernel) (fun H1 locs1 hB1 hz1 hf1 hS1 => ?_)
  clear hB hz hS hf1
  have hB : CB D z (pos (o, 0) + 2) o (addS (fun _ => false) 0) (fnL (adZ z) cA ((o, 1) :: [])) H1 := hB1
  have hz : H1.size = z + (pos (o, 0) + 2) := hz1
  have hS := hS1
  clear hB1 hz1 hS1
  -- field 1, from 12
  refine lv_aload_n (k := 0) (i := 0) hx hb (show decode cX5_init 12 = .ok (.aload_n 0, 1) by decide +kernel) rfl (lv_at hl 0 rfl) ?_
  refine lv_bipush (n := 12) (v := 12) hx hb (show decode cX5_init 13 = .ok (.bipush 12, 2) by decide +kernel) (by decide +kernel) ?_
  refine st_na hC hS hB hz (idx := 15) (ci := 5) (N := 17) (k := 1) (T := TX5) (kd := 3) (N' := 12) (t0 := 0) (dv := .int 0) (x := 12) (atype := .int) ho rfl (by decide) rfl (fun w => absurd w.2 (show ¬ 1 = 41 by decide)) (Or.inl ⟨rfl, rfl, rfl, rfl, rfl⟩) hp_f1 (gk_1 47 rfl rfl) (gk_1 66 rfl rfl) (by decide +kernel) (by decide +kernel) (by decide +kernel) (Nat.le_of_ble_eq_true rfl) (Nat.le_of_ble_eq_true rfl) (Nat.le_of_ble_eq_true rfl) (show decode cX5_init 15 = .ok (.newarray .int, 2) by decide +kernel) (show decode cX5_init 17 = .ok (.putfield 15, 3) by decide +kernel) (fun H1 locs1 hB1 hz1 hf1 hS1 => ?_)
  clear hB hz hS hf1
  have hB : CB D z (pos (o, 0) + 3) o (addS (addS (fun _ => false) 0) 1) (fnL (adZ z) cA ((o, 2) :: ((o, 1) :: []))) H1 := hB1
  have hz : H1.size = z + (pos (o, 0) + 3) := hz1
  have hS := hS1
  clear hB1 hz1 hS1
  -- field 2, from 20
  refine lv_aload_n (k := 0) (i := 0) hx hb (show decode cX5_init 20 = .ok (.aload_n 0, 1) by decide +kernel) rfl (lv_at hl 0 rfl) ?_
  refine lv_bipush (n := 12) (v := 12) hx hb (show decode cX5_init 21 = .ok (.bipush 12, 2) by decide +kernel) (by decide +kernel) ?_
  refine st_na hC hS hB hz (idx := 18) (ci := 5) (N := 17) (k := 2) (T := TX5) (kd := 3) (N' := 12) (t0 := 0) (dv := .int 0) (x := 12) (atype := .int) ho rfl (by decide) rfl (fun w => absurd w.2 (show ¬ 2 = 41 by decide)) (Or.inl ⟨rfl, rfl, rfl, rfl, rfl⟩) hp_f2 (gk_1 47 rfl rfl) (gk_1 70 rfl rfl) (by decide +kernel) (by decide +kernel) (by decide +kernel) (Nat.le_of_ble_eq_true rfl) (Nat.le_of_ble_eq_true rfl) (Nat.le_of_ble_eq_true rfl) (show decode cX5_init 23 = .ok (.newarray .int, 2) by decide +kernel) (show decode cX5_init 25 = .ok (.putfield 18, 3) by decide +kernel) (fun H1 locs1 hB1 hz1 hf1 hS1 => ?_)
  clear hB hz hS hf1
  have hB : CB D z (pos (o, 0) + 4) o (addS (addS (addS (fun _ => false) 0) 1) 2) (fnL (adZ z) cA ((o, 3) :: ((o, 2) :: ((o, 1) :: [])))) H1 := hB1
  have hz : H1.size = z + (pos (o, 0) + 4) := hz1
  have hS := hS1
  clear hB1 hz1 hS1
  -- field 3, from 28
  refine lv_aload_n (k := 0) (i := 0) hx hb (show decode cX5_init 28 = .ok (.aload_n 0, 1) by decide +kernel) rfl (lv_at hl 0 rfl) ?_
  refine lv_bipush (n := 12) (v := 12) hx hb (show decode cX5_init 29 = .ok (.bipush 12, 2) by decide +kernel) (by decide +kernel) ?_
  refine st_na hC hS hB hz (idx := 21) (ci := 5) (N := 17) (k := 3) (T := TX5) (kd := 3) (N' := 12) (t0 := 0) (dv := .int 0) (x := 12) (atype := .int) ho rfl (by decide) rfl (fun w => absurd w.2 (show ¬ 3 = 41 by decide)) (Or.inl ⟨rfl, rfl, rfl, rfl, rfl⟩) hp_f3 (gk_1 47 rfl rfl) (gk_1 74 rfl rfl) (by decide +kernel) (by decide +kernel) (by decide +kernel) (Nat.le_of_ble_eq_true rfl) (Nat.le_of_ble_eq_true rfl) (Nat.le_of_ble_eq_true rfl) (show decode cX5_init 31 = .ok (.newarray .int, 2) by decide +kernel) (show decode cX5_init 33 = .ok (.putfield 21, 3) by decide +kernel) (fun H1 locs1 hB1 hz1 hf1 hS1 => ?_)
  clear hB hz hS hf1
  have hB : CB D z (pos (o, 0) + 5) o (addS (addS (addS (addS (fun _ => false) 0) 1) 2) 3) (fnL (adZ z) cA ((o, 4) :: ((o, 3) :: ((o, 2) :: ((o, 1) :: []))))) H1 := hB1
  have hz : H1.size = z + (pos (o, 0) + 5) := hz1
  have hS := hS1
  clear hB1 hz1 hS1
  -- field 5, from 36
  refine lv_aload_n (k := 0) (i := 0) hx hb (show decode cX5_init 36 = .ok (.aload_n 0, 1) by decide +kernel) rfl (lv_at hl 0 rfl) ?_
  refine lv_bipush (n := 16) (v := 16) hx hb (show decode cX5_init 37 = .ok (.bipush 16, 2) by decide +kernel) (by decide +kernel) ?_
  refine st_na hC hS hB hz (idx := 24) (ci := 5) (N := 17) (k := 5) (T := TX5) (kd := 3) (N' := 16) (t0 := 0) (dv := .int 0) (x := 16) (atype := .int) ho rfl (by decide) rfl (fun w => absurd w.2 (show ¬ 5 = 41 by decide)) (Or.inl ⟨rfl, rfl, rfl, rfl, rfl⟩) hp_f5 (gk_1 47 rfl rfl) (gk_1 84 rfl rfl) (by decide +kernel) (by decide +kernel) (by decide +kernel) (Nat.le_of_ble_eq_true rfl) (Nat.le_of_ble_eq_true rfl) (Nat.le_of_ble_eq_true rfl) (show decode cX5_init 39 = .ok (.newarray .int, 2) by decide +kernel) (show decode cX5_init 41 = .ok (.putfield 24, 3) by decide +kernel) (fun H1 locs1 hB1 hz1 hf1 hS1 => ?_)
  clear hB hz hS hf1
  have hB : CB D z (pos (o, 0) + 6) o (addS (addS (addS (addS (addS (fun _ => false) 0) 1) 2) 3) 5) (fnL (adZ z) cA ((o, 6) :: ((o, 4) :: ((o, 3) :: ((o, 2) :: ((o, 1) :: [])))))) H1 := hB1
  have hz : H1.size = z + (pos (o, 0) + 6) := hz1
  have hS := hS1
  clear hB1 hz1 hS1
  -- field 6, from 44
  refine lv_aload_n (k := 0) (i := 0) hx hb (show decode cX5_init 44 = .ok (.aload_n 0, 1) by decide +kernel) rfl (lv_at hl 0 rfl) ?_
  refine lv_bipush (n := 16) (v := 16) hx hb (show decode cX5_init 45 = .ok (.bipush 16, 2) by decide +kernel) (by decide +kernel) ?_
  refine st_na hC hS hB hz (idx := 27) (ci := 5) (N := 17) (k := 6) (T := TX5) (kd := 3) (N' := 16) (t0 := 0) (dv := .int 0) (x := 16) (atype := .int) ho rfl (by decide) rfl (fun w => absurd w.2 (show ¬ 6 = 41 by decide)) (Or.inl ⟨rfl, rfl, rfl, rfl, rfl⟩) hp_f6 (gk_1 47 rfl rfl) (gk_1 86 rfl rfl) (by decide +kernel) (by decide +kernel) (by decide +kernel) (Nat.le_of_ble_eq_true rfl) (Nat.le_of_ble_eq_true rfl) (Nat.le_of_ble_eq_true rfl) (show decode cX5_init 47 = .ok (.newarray .int, 2) by decide +kernel) (show decode cX5_init 49 = .ok (.putfield 27, 3) by decide +kernel) (fun H1 locs1 hB1 hz1 hf1 hS1 => ?_)
  clear hB hz hS hf1
  have hB : CB D z (pos (o, 0) + 7) o (addS (addS (addS (addS (addS (addS (fun _ => false) 0) 1) 2) 3) 5) 6) (fnL (adZ z) cA ((o, 7) :: ((o, 6) :: ((o, 4) :: ((o, 3) :: ((o, 2) :: ((o, 1) :: []))))))) H1 := hB1
  have hz : H1.size = z + (pos (o, 0) + 7) := hz1
  have hS := hS1
  clear hB1 hz1 hS1
  -- field 11, from 52
  refine lv_aload_n (k := 0) (i := 0) hx hb (show decode cX5_init 52 = .ok (.aload_n 0, 1) by decide +kernel) rfl (lv_at hl 0 rfl) ?_
  refine lv_bipush (n := 8) (v := 8) hx hb (show decode cX5_init 53 = .ok (.bipush 8, 2) by decide +kernel) (by decide +kernel) ?_
  refine st_na hC hS hB hz (idx := 30) (ci := 5) (N := 17) (k := 11) (T := TX5) (kd := 3) (N' := 8) (t0 := 0) (dv := .int 0) (x := 8) (atype := .int) ho rfl (by decide) rfl (fun w => absurd w.2 (show ¬ 11 = 41 by decide)) (Or.inl ⟨rfl, rfl, rfl, rfl, rfl⟩) hp_f11 (gk_1 47 rfl rfl) (gk_1 102 rfl rfl) (by decide +kernel) (by decide +kernel) (by decide +kernel) (Nat.le_of_ble_eq_true rfl) (Nat.le_of_ble_eq_true rfl) (Nat.le_of_ble_eq_true rfl) (show decode cX5_init 55 = .ok (.newarray .int, 2) by decide +kernel) (show decode cX5_init 57 = .ok (.putfield 30, 3) by decide +kernel) (fun H1 locs1 hB1 hz1 hf1 hS1 => ?_)
  clear hB hz hS hf1
  have hB : CB D z (pos (o, 0) + 8) o (addS (addS (addS (addS (addS (addS (addS (fun _ => false) 0) 1) 2) 3) 5) 6) 11) (fnL (adZ z) cA ((o, 12) :: ((o, 7) :: ((o, 6) :: ((o, 4) :: ((o, 3) :: ((o, 2) :: ((o, 1) :: [])))))))) H1 := hB1
  have hz : H1.size = z + (pos (o, 0) + 8) := hz1
  have hS := hS1
  clear hB1 hz1 hS1
  -- field 12, from 60
  refine lv_aload_n (k := 0) (i := 0) hx hb (show decode cX5_init 60 = .ok (.aload_n 0, 1) by decide +kernel) rfl (lv_at hl 0 rfl) ?_
  refine lv_bipush (n := 8) (v := 8) hx hb (show decode cX5_init 61 = .ok (.bipush 8, 2) by decide +kernel) (by decide +kernel) ?_
  refine st_na hC hS hB hz (idx := 33) (ci := 5) (N := 17) (k := 12) (T := TX5) (kd := 3) (N' := 8) (t0 := 0) (dv := .int 0) (x := 8) (atype := .int) ho rfl (by decide) rfl (fun w => absurd w.2 (show ¬ 12 = 41 by decide)) (Or.inl ⟨rfl, rfl, rfl, rfl, rfl⟩) hp_f12 (gk_1 47 rfl rfl) (gk_1 105 rfl rfl) (by decide +kernel) (by decide +kernel) (by decide +kernel) (Nat.le_of_ble_eq_true rfl) (Nat.le_of_ble_eq_true rfl) (Nat.le_of_ble_eq_true rfl) (show decode cX5_init 63 = .ok (.newarray .int, 2) by decide +kernel) (show decode cX5_init 65 = .ok (.putfield 33, 3) by decide +kernel) (fun H1 locs1 hB1 hz1 hf1 hS1 => ?_)
  clear hB hz hS hf1
  have hB : CB D z (pos (o, 0) + 9) o (addS (addS (addS (addS (addS (addS (addS (addS (fun _ => false) 0) 1) 2) 3) 5) 6) 11) 12) (fnL (adZ z) cA ((o, 13) :: ((o, 12) :: ((o, 7) :: ((o, 6) :: ((o, 4) :: ((o, 3) :: ((o, 2) :: ((o, 1) :: []))))))))) H1 := hB1
  have hz : H1.size = z + (pos (o, 0) + 9) := hz1
  have hS := hS1
  clear hB1 hz1 hS1
  -- field 13, from 68
  refine lv_aload_n (k := 0) (i := 0) hx hb (show decode cX5_init 68 = .ok (.aload_n 0, 1) by decide +kernel) rfl (lv_at hl 0 rfl) ?_
  refine lv_bipush (n := 8) (v := 8) hx hb (show decode cX5_init 69 = .ok (.bipush 8, 2) by decide +kernel) (by decide +kernel) ?_
  refine st_na hC hS hB hz (idx := 36) (ci := 5) (N := 17) (k := 13) (T := TX5) (kd := 3) (N' := 8) (t0 := 0) (dv := .int 0) (x := 8) (atype := .int) ho rfl (by decide) rfl (fun w => absurd w.2 (show ¬ 13 = 41 by decide)) (Or.inl ⟨rfl, rfl, rfl, rfl, rfl⟩) hp_f13 (gk_1 47 rfl rfl) (gk_1 108 rfl rfl) (by decide +kernel) (by decide +kernel) (by decide +kernel) (Nat.le_of_ble_eq_true rfl) (Nat.le_of_ble_eq_true rfl) (Nat.le_of_ble_eq_true rfl) (show decode cX5_init 71 = .ok (.newarray .int, 2) by decide +kernel) (show decode cX5_init 73 = .ok (.putfield 36, 3) by decide +kernel) (fun H1 locs1 hB1 hz1 hf1 hS1 => ?_)
  clear hB hz hS hf1
  have hB : CB D z (pos (o, 0) + 10) o (addS (addS (addS (addS (addS (addS (addS (addS (addS (fun _ => false) 0) 1) 2) 3) 5) 6) 11) 12) 13) (fnL (adZ z) cA ((o, 14) :: ((o, 13) :: ((o, 12) :: ((o, 7) :: ((o, 6) :: ((o, 4) :: ((o, 3) :: ((o, 2) :: ((o, 1) :: [])))))))))) H1 := hB1
  have hz : H1.size = z + (pos (o, 0) + 10) := hz1
  have hS := hS1
  clear hB1 hz1 hS1
  refine W.widen (k := 9) (n := 104) (Nat.le_of_ble_eq_true rfl) (Nat.le_of_ble_eq_true rfl) ?_
  have hfull : ∀ j, j < nF (cls o) → (addS (addS (addS (addS (addS (addS (addS (addS (addS (fun _ => false) 0) 1) 2) 3) 5) 6) 11) 12) 13) j = true ∨ fieldV (adZ z) s0 o j = dvF (ftab (cls o) j).1 := by
    intro j hj
    rw [ho] at hj ⊢
    have hd : ∀ j, j < nF 5 → (addS (addS (addS (addS (addS (addS (addS (addS (addS (fun _ => false) 0) 1) 2) 3) 5) 6) 11) 12) 13) j = true ∨ (ftab 5 j).1 < 3 := by decide +kernel
    by_cases q : (addS (addS (addS (addS (addS (addS (addS (addS (addS (fun _ => false) 0) 1) 2) 3) 5) 6) 11) 12) 13) j = true
    · exact Or.inl q
    · refine Or.inr ?_
      have h3 := (hd j hj).resolve_left q
      rw [← ho] at h3 ⊢
      refine fv_def h3 (if_neg (fun w => ?_))
      obtain ⟨w, _⟩ := w
      rw [w] at ho; exact absurd ho (by decide)
  refine W.vret hx hb hr (fun t ht hW => ⟨⟨(), rfl, trivial, by rw [ht]; omega, fun d hd => ?_⟩, hS.F ht⟩) hS.2.2 (show decode cX5_init 76 = .ok (.return_, 1) by decide +kernel)
  rw [ht]
  rcases List.mem_cons.mp hd with rfl | hd
  · have h9 := hB.2.1
    rw [fsK_full (cA := cA) hfull] at h9
    exact h9
  · exact (hB.2.2 (d, kcell (adZ z) cA s0 d) (List.mem_map.mpr ⟨d, hd, rfl⟩)).1
set_option maxHeartbeats 4000000 in
set_option maxRecDepth 100000 in
theorem c_td {o : Nat} (ho : cls o = 9) : CM yX9_init cX9_init 1 o 1 5 34 (ds_9 o) (fun _ => []) := by
  intro l D cA z
  have h35 : o < 35 := cls_lt ho (by decide)
  obtain ⟨hp_f0, hp_f2, hp_f3, hp_f4, hp_f6⟩ := ps_9 o h35 ho
  refine Met.ofW (cc := cX9_init) (maxL := 1) (ret := none) (by decide) rfl ?_
  intro p e s m args below meth c s₁ B hml hv
  obtain ⟨rfl, hz, he, hK, hex⟩ := hv
  have hx := B.exec
  have hb := B.bytes
  have hr := B.returns
  have hts0 := atoms_spec (ws := .code yX9_init cX9_init 1 none :: gtb) B.pre
  have hown : s.vm.findClass RX9 = some m.cls := findClass_of_methodNamed B.named
  have hlocks := B.notSynchronized
  have hin : meth.name = "<init>" := (name_of_methodNamed B.named B.method).1
  have hts : ∀ w ∈ gtb, w.before _ s = true := fun w h => hts0 w (List.mem_cons_of_mem _ h)
  have hC : CIc p s m _ meth c cX9_init 1 D cA RX9 := ⟨⟨hx, hb, hml, hown, hin⟩, hts, hK⟩
  have hS : va_S (fun q => z + pos (o, 0) ≤ q) s.heap s.heap [] := va_S.rf
  have hB : CB D z (pos (o, 0) + 1) o (fun _ => false) (fnL (adZ z) cA []) s.heap := ⟨by omega, he, fun q hq => by cases hq⟩
  have hz : s.heap.size = z + (pos (o, 0) + 1) := by omega
  have hl := lv_entry ([.ref (z + pos (o, 0))]) (n := 1) (Nat.le_of_ble_eq_true rfl)
  rw [lg_entry_eq]
  generalize (lg_sl ([.ref (z + pos (o, 0))]) ++ List.replicate (1 - (lg_sl ([.ref (z + pos (o, 0))])).length) Slot.unset).toArray = ls at hl ⊢
  have hl : lv_has ls 1 [(0, .ref (z + pos (o, 0)))] := hl
  refine lv_aload_n (k := 0) (i := 0) hx hb (show decode cX9_init 0 = .ok (.aload_n 0, 1) by decide +kernel) rfl (lv_at hl 0 rfl) ?_
  refine W.objInit hx hb hown (hts _ (gk_1 160 rfl rfl)) (hts _ (gk_1 26 rfl rfl)) (hts _ (gk_1 27 rfl rfl)) rfl (by rw [hml]; exact hl.1) rfl (show decode cX9_init 1 = .ok (.invokespecial 1, 3) by decide +kernel) (Nat.le_of_ble_eq_true rfl) (Nat.le_of_ble_eq_true rfl) ?_
  refine W.eq (g2 := F0 m 4 ls []) rfl ?_
  -- field 0, from 4
  refine lv_aload_n (k := 0) (i := 0) hx hb (show decode cX9_init 4 = .ok (.aload_n 0, 1) by decide +kernel) rfl (lv_at hl 0 rfl) ?_
  refine lv_bipush (n := 9) (v := 9) hx hb (show decode cX9_init 5 = .ok (.bipush 9, 2) by decide +kernel) (by decide +kernel) ?_
  refine st_na hC hS hB hz (idx := 9) (ci := 9) (N := 8) (k := 0) (T := TX9) (kd := 3) (N' := 9) (t0 := 0) (dv := .int 0) (x := 9) (atype := .int) ho rfl (by decide) rfl (fun w => absurd w.2 (show ¬ 0 = 41 by decide)) (Or.inl ⟨rfl, rfl, rfl, rfl, rfl⟩) hp_f0 (gk_1 47 rfl rfl) (gk_1 161 rfl rfl) (by decide +kernel) (by decide +kernel) (by decide +kernel) (Nat.le_of_ble_eq_true rfl) (Nat.le_of_ble_eq_true rfl) (Nat.le_of_ble_eq_true rfl) (show decode cX9_init 7 = .ok (.newarray .int, 2) by decide +kernel) (show decode cX9_init 9 = .ok (.putfield 9, 3) by decide +kernel) (fun H1 locs1 hB1 hz1 hf1 hS1 => ?_)
  clear hB hz hS hf1
  have hB : CB D z (pos (o, 0) + 2) o (addS (fun _ => false) 0) (fnL (adZ z) cA ((o, 1) :: [])) H1 := hB1
  have hz : H1.size = z + (pos (o, 0) + 2) := hz1
  have hS := hS1
  clear hB1 hz1 hS1
  -- field 2, from 12
  refine lv_aload_n (k := 0) (i := 0) hx hb (show decode cX9_init 12 = .ok (.aload_n 0, 1) by decide +kernel) rfl (lv_at hl 0 rfl) ?_
  refine lv_bipush (n := 9) (v := 9) hx hb (show decode cX9_init 13 = .ok (.bipush 9, 2) by decide +kernel) (by decide +kernel) ?_
  refine st_na hC hS hB hz (idx := 13) (ci := 9) (N := 8) (k := 2) (T := TX9) (kd := 3) (N' := 9) (t0 := 0) (dv := .int 0) (x := 9) (atype := .int) ho rfl (by decide) rfl (fun w => absurd w.2 (show ¬ 2 = 41 by decide)) (Or.inl ⟨rfl, rfl, rfl, rfl, rfl⟩) hp_f2 (gk_1 47 rfl rfl) (gk_1 167 rfl rfl) (by decide +kernel) (by decide +kernel) (by decide +kernel) (Nat.le_of_ble_eq_true rfl) (Nat.le_of_ble_eq_true rfl) (Nat.le_of_ble_eq_true rfl) (show decode cX9_init 15 = .ok (.newarray .int, 2) by decide +kernel) (show decode cX9_init 17 = .ok (.putfield 13, 3) by decide +kernel) (fun H1 locs1 hB1 hz1 hf1 hS1 => ?_)
  clear hB hz hS hf1
  have hB : CB D z (pos (o, 0) + 3) o (addS (addS (fun _ => false) 0) 2) (fnL (adZ z) cA ((o, 3) :: ((o, 1) :: []))) H1 := hB1
  have hz : H1.size = z + (pos (o, 0) + 3) := hz1
  have hS := hS1
  clear hB1 hz1 hS1
  -- field 3, from 20
  refine lv_aload_n (k := 0) (i := 0) hx hb (show decode cX9_init 20 = .ok (.aload_n 0, 1) by decide +kernel) rfl (lv_at hl 0 rfl) ?_
  refine lv_iconst (n := 5) (v := 5) hx hb (show decode cX9_init 21 = .ok (.iconst 5, 1) by decide +kernel) (by decide +kernel) ?_
  refine st_na hC hS hB hz (idx := 16) (ci := 9) (N := 8) (k := 3) (T := TX9) (kd := 3) (N' := 5) (t0 := 0) (dv := .int 0) (x := 5) (atype := .int) ho rfl (by decide) rfl (fun w => absurd w.2 (show ¬ 3 = 41 by decide)) (Or.inl ⟨rfl, rfl, rfl, rfl, rfl⟩) hp_f3 (gk_1 47 rfl rfl) (gk_1 170 rfl rfl) (by decide +kernel) (by decide +kernel) (by decide +kernel) (Nat.le_of_ble_eq_true rfl) (Nat.le_of_ble_eq_true rfl) (Nat.le_of_ble_eq_true rfl) (show decode cX9_init 22 = .ok (.newarray .int, 2) by decide +kernel) (show decode cX9_init 24 = .ok (.putfield 16, 3) by decide +kernel) (fun H1 locs1 hB1 hz1 hf1 hS1 => ?_)
  clear hB hz hS hf1
  have hB : CB D z (pos (o, 0) + 4) o (addS (addS (addS (fun _ => false) 0) 2) 3) (fnL (adZ z) cA ((o, 4) :: ((o, 3) :: ((o, 1) :: [])))) H1 := hB1
  have hz : H1.size = z + (pos (o, 0) + 4) := hz1
  have hS := hS1
  clear hB1 hz1 hS1
  -- field 4, from 27
  refine lv_aload_n (k := 0) (i := 0) hx hb (show decode cX9_init 27 = .ok (.aload_n 0, 1) by decide +kernel) rfl (lv_at hl 0 rfl) ?_
  refine lv_iconst (n := 5) (v := 5) hx hb (show decode cX9_init 28 = .ok (.iconst 5, 1) by decide +kernel) (by decide +kernel) ?_
  refine st_na hC hS hB hz (idx := 19) (ci := 9) (N := 8) (k := 4) (T := TX9) (kd := 3) (N' := 5) (t0 := 0) (dv := .int 0) (x := 5) (atype := .int) ho rfl (by decide) rfl (fun w => absurd w.2 (show ¬ 4 = 41 by decide)) (Or.inl ⟨rfl, rfl, rfl, rfl, rfl⟩) hp_f4 (gk_1 47 rfl rfl) (gk_1 173 rfl rfl) (by decide +kernel) (by decide +kernel) (by decide +kernel) (Nat.le_of_ble_eq_true rfl) (Nat.le_of_ble_eq_true rfl) (Nat.le_of_ble_eq_true rfl) (show decode cX9_init 29 = .ok (.newarray .int, 2) by decide +kernel) (show decode cX9_init 31 = .ok (.putfield 19, 3) by decide +kernel) (fun H1 locs1 hB1 hz1 hf1 hS1 => ?_)
  clear hB hz hS hf1
  have hB : CB D z (pos (o, 0) + 5) o (addS (addS (addS (addS (fun _ => false) 0) 2) 3) 4) (fnL (adZ z) cA ((o, 5) :: ((o, 4) :: ((o, 3) :: ((o, 1) :: []))))) H1 := hB1
  have hz : H1.size = z + (pos (o, 0) + 5) := hz1
  have hS := hS1
  clear hB1 hz1 hS1
  -- field 6, from 34
  refine lv_aload_n (k := 0) (i := 0) hx hb (show decode cX9_init 34 = .ok (.aload_n 0, 1) by decide +kernel) rfl (lv_at hl 0 rfl) ?_
  refine lv_bipush (n := 6) (v := 6) hx hb (show decode cX9_init 35 = .ok (.bipush 6, 2) by decide +kernel) (by decide +kernel) ?_
  refine st_na hC hS hB hz (idx := 22) (ci := 9) (N := 8) (k := 6) (T := TX9) (kd := 3) (N' := 6) (t0 := 0) (dv := .int 0) (x := 6) (atype := .int) ho rfl (by decide) rfl (fun w => absurd w.2 (show ¬ 6 = 41 by decide)) (Or.inl ⟨rfl, rfl, rfl, rfl, rfl⟩) hp_f6 (gk_1 47 rfl rfl) (gk_1 179 rfl rfl) (by decide +kernel) (by decide +kernel) (by decide +kernel) (Nat.le_of_ble_eq_true rfl) (Nat.le_of_ble_eq_true rfl) (Nat.le_of_ble_eq_true rfl) (show decode cX9_init 37 = .ok (.newarray .int, 2) by decide +kernel) (show decode cX9_init 39 = .ok (.putfield 22, 3) by decide +kernel) (fun H1 locs1 hB1 hz1 hf1 hS1 => ?_)
  clear hB hz hS hf1
  have hB : CB D z (pos (o, 0) + 6) o (addS (addS (addS (addS (addS (fun _ => false) 0) 2) 3) 4) 6) (fnL (adZ z) cA ((o, 7) :: ((o, 5) :: ((o, 4) :: ((o, 3) :: ((o, 1) :: [])))))) H1 := hB1
  have hz : H1.size = z + (pos (o, 0) + 6) := hz1
  have hS := hS1
  clear hB1 hz1 hS1
  refine W.widen (k := 5) (n := 34) (Nat.le_of_ble_eq_true rfl) (Nat.le_of_ble_eq_true rfl) ?_
  have hfull : ∀ j, j < nF (cls o) → (addS (addS (addS (addS (addS (fun _ => false) 0) 2) 3) 4) 6) j = true ∨ fieldV (adZ z) s0 o j = dvF (ftab (cls o) j).1 := by
    intro j hj
    rw [ho] at hj ⊢
    have hd : ∀ j, j < nF 9 → (addS (addS (addS (addS (addS (fun _ => false) 0) 2) 3) 4) 6) j = true ∨ (ftab 9 j).1 < 3 := by decide +kernel
    by_cases q : (addS (addS (addS (addS (addS (fun _ => false) 0) 2) 3) 4) 6) j = true
    · exact Or.inl q
    · refine Or.inr ?_
      have h3 := (hd j hj).resolve_left q
      rw [← ho] at h3 ⊢
      refine fv_def h3 (if_neg (fun w => ?_))
      obtain ⟨w, _⟩ := w
      rw [w] at ho; exact absurd ho (by decide)
  refine W.vret hx hb hr (fun t ht hW => ⟨⟨(), rfl, trivial, by rw [ht]; omega, fun d hd => ?_⟩, hS.F ht⟩) hS.2.2 (show decode cX9_init 42 = .ok (.return_, 1) by decide +kernel)
  rw [ht]
  rcases List.mem_cons.mp hd with rfl | hd
  · have h9 := hB.2.1
    rw [fsK_full (cA := cA) hfull] at h9
    exact h9
  · exact (hB.2.2 (d, kcell (adZ z) cA s0 d) (List.mem_map.mpr ⟨d, hd, rfl⟩)).1
set_option maxHeartbeats 4000000 in
set_option maxRecDepth 100000 in
theorem c_fm : CM yX0_init cX0_init 1 24 1 3 101 (ds_0 24) (fun _ => []) := by
  intro l D cA z
  have ho : cls 24 = 0 := rfl
  have h35 : 24 < 35 := by decide
  obtain ⟨hp_f0, hp_f1, hp_f2⟩ := ps_0 24 h35 ho
  refine Met.ofW (cc := cX0_init) (maxL := 1) (ret := none) (by decide) rfl ?_
  intro p e s m args below meth c s₁ B hml hv
  obtain ⟨rfl, hz, he, hK, hex⟩ := hv
  have hx := B.exec
  have hb := B.bytes
  have hr := B.returns
  have hts0 := atoms_spec (ws := .code yX0_init cX0_init 1 none :: gtb) B.pre
  have hown : s.vm.findClass RX0 = some m.cls := findClass_of_methodNamed B.named
  have hlocks := B.notSynchronized
  have hin : meth.name = "<init>" := (name_of_methodNamed B.named B.method).1
  have hts : ∀ w ∈ gtb, w.before _ s = true := fun w h => hts0 w (List.mem_cons_of_mem _ h)
  have hC : CIc p s m _ meth c cX0_init 1 D cA RX0 := ⟨⟨hx, hb, hml, hown, hin⟩, hts, hK⟩
  have hS : va_S (fun q => z + pos (24, 0) ≤ q) s.heap s.heap [] := va_S.rf
  have hB : CB D z (pos (24, 0) + 1) 24 (fun _ => false) (fnL (adZ z) cA []) s.heap := ⟨by omega, he, fun q hq => by cases hq⟩
  have hz : s.heap.size = z + (pos (24, 0) + 1) := by omega
  have hl := lv_entry ([.ref (z + pos (24, 0))]) (n := 1) (Nat.le_of_ble_eq_true rfl)
  rw [lg_entry_eq]
  generalize (lg_sl ([.ref (z + pos (24, 0))]) ++ List.replicate (1 - (lg_sl ([.ref (z + pos (24, 0))])).length) Slot.unset).toArray = ls at hl ⊢
  have hl : lv_has ls 1 [(0, .ref (z + pos (24, 0)))] := hl
  refine lv_aload_n (k := 0) (i := 0) hx hb (show decode cX0_init 0 = .ok (.aload_n 0, 1) by decide +kernel) rfl (lv_at hl 0 rfl) ?_
  refine W.objInit hx hb hown (hts _ (gk_2 110 rfl rfl)) (hts _ (gk_1 26 rfl rfl)) (hts _ (gk_1 27 rfl rfl)) rfl (by rw [hml]; exact hl.1) rfl (show decode cX0_init 1 = .ok (.invokespecial 3, 3) by decide +kernel) (Nat.le_of_ble_eq_true rfl) (Nat.le_of_ble_eq_true rfl) ?_
  refine W.eq (g2 := F0 m 4 ls []) rfl ?_
  -- field 0, from 4
  refine lv_aload_n (k := 0) (i := 0) hx hb (show decode cX0_init 4 = .ok (.aload_n 0, 1) by decide +kernel) rfl (lv_at hl 0 rfl) ?_
  refine lv_bipush (n := 81) (v := 81) hx hb (show decode cX0_init 5 = .ok (.bipush 81, 2) by decide +kernel) (by decide +kernel) ?_
  refine st_na hC hS hB hz (idx := 11) (ci := 0) (N := 3) (k := 0) (T := TX0) (kd := 3) (N' := 81) (t0 := 0) (dv := .int 0) (x := 81) (atype := .int) ho rfl (by decide) rfl (fun w => absurd w.2 (show ¬ 0 = 41 by decide)) (Or.inl ⟨rfl, rfl, rfl, rfl, rfl⟩) hp_f0 (gk_1 47 rfl rfl) (gk_2 111 rfl rfl) (by decide +kernel) (by decide +kernel) (by decide +kernel) (Nat.le_of_ble_eq_true rfl) (Nat.le_of_ble_eq_true rfl) (Nat.le_of_ble_eq_true rfl) (show decode cX0_init 7 = .ok (.newarray .int, 2) by decide +kernel) (show decode cX0_init 9 = .ok (.putfield 11, 3) by decide +kernel) (fun H1 locs1 hB1 hz1 hf1 hS1 => ?_)
  clear hB hz hS hf1
  have hB : CB D z (pos (24, 0) + 2) 24 (addS (fun _ => false) 0) (fnL (adZ z) cA ((24, 1) :: [])) H1 := hB1
  have hz : H1.size = z + (pos (24, 0) + 2) := hz1
  have hS := hS1
  clear hB1 hz1 hS1
  -- field 1, from 12
  refine lv_aload_n (k := 0) (i := 0) hx hb (show decode cX0_init 12 = .ok (.aload_n 0, 1) by decide +kernel) rfl (lv_at hl 0 rfl) ?_
  refine lv_bipush (n := 10) (v := 10) hx hb (show decode cX0_init 13 = .ok (.bipush 10, 2) by decide +kernel) (by decide +kernel) ?_
  refine st_na hC hS hB hz (idx := 19) (ci := 0) (N := 3) (k := 1) (T := TX0) (kd := 3) (N' := 10) (t0 := 0) (dv := .int 0) (x := 10) (atype := .int) ho rfl (by decide) rfl (fun w => absurd w.2 (show ¬ 1 = 41 by decide)) (Or.inl ⟨rfl, rfl, rfl, rfl, rfl⟩) hp_f1 (gk_1 47 rfl rfl) (gk_2 112 rfl rfl) (by decide +kernel) (by decide +kernel) (by decide +kernel) (Nat.le_of_ble_eq_true rfl) (Nat.le_of_ble_eq_true rfl) (Nat.le_of_ble_eq_true rfl) (show decode cX0_init 15 = .ok (.newarray .int, 2) by decide +kernel) (show decode cX0_init 17 = .ok (.putfield 19, 3) by decide +kernel) (fun H1 locs1 hB1 hz1 hf1 hS1 => ?_)
  clear hB hz hS hf1
  have hB : CB D z (pos (24, 0) + 3) 24 (addS (addS (fun _ => false) 0) 1) (fnL (adZ z) cA ((24, 2) :: ((24, 1) :: []))) H1 := hB1
  have hz : H1.size = z + (pos (24, 0) + 3) := hz1
  have hS := hS1
  clear hB1 hz1 hS1
  -- field 2, from 20
  refine lv_aload_n (k := 0) (i := 0) hx hb (show decode cX0_init 20 = .ok (.aload_n 0, 1) by decide +kernel) rfl (lv_at hl 0 rfl) ?_
  refine lv_bipush (n := 10) (v := 10) hx hb (show decode cX0_init 21 = .ok (.bipush 10, 2) by decide +kernel) (by decide +kernel) ?_
  refine st_na hC hS hB hz (idx := 22) (ci := 0) (N := 3) (k := 2) (T := TX0) (kd := 5) (N' := 10) (t0 := 2) (dv := .int 0) (x := 10) (atype := .boolean) ho rfl (by decide) rfl (fun w => absurd w.2 (show ¬ 2 = 41 by decide)) (Or.inr (Or.inr (Or.inl ⟨rfl, rfl, rfl, rfl, rfl⟩))) hp_f2 (gk_2 44 rfl rfl) (gk_2 113 rfl rfl) (by decide +kernel) (by decide +kernel) (by decide +kernel) (Nat.le_of_ble_eq_true rfl) (Nat.le_of_ble_eq_true rfl) (Nat.le_of_ble_eq_true rfl) (show decode cX0_init 23 = .ok (.newarray .boolean, 2) by decide +kernel) (show decode cX0_init 25 = .ok (.putfield 22, 3) by decide +kernel) (fun H1 locs1 hB1 hz1 hf1 hS1 => ?_)
  clear hB hz hS hf1
  have hB : CB D z (pos (24, 0) + 4) 24 (addS (addS (addS (fun _ => false) 0) 1) 2) (fnL (adZ z) cA ((24, 3) :: ((24, 2) :: ((24, 1) :: [])))) H1 := hB1
  have hz : H1.size = z + (pos (24, 0) + 4) := hz1
  have hS := hS1
  clear hB1 hz1 hS1
  refine W.widen (k := 3) (n := 101) (Nat.le_of_ble_eq_true rfl) (Nat.le_of_ble_eq_true rfl) ?_
  have hfull : ∀ j, j < nF (cls 24) → (addS (addS (addS (fun _ => false) 0) 1) 2) j = true ∨ fieldV (adZ z) s0 24 j = dvF (ftab (cls 24) j).1 := by
    intro j hj
    rw [ho] at hj ⊢
    have hd : ∀ j, j < nF 0 → (addS (addS (addS (fun _ => false) 0) 1) 2) j = true ∨ (ftab 0 j).1 < 3 := by decide +kernel
    by_cases q : (addS (addS (addS (fun _ => false) 0) 1) 2) j = true
    · exact Or.inl q
    · refine Or.inr ?_
      have h3 := (hd j hj).resolve_left q
      rw [← ho] at h3 ⊢
      refine fv_def h3 (if_neg (fun w => ?_))
      obtain ⟨w, _⟩ := w
      exact absurd w (by decide)
  refine W.vret hx hb hr (fun t ht hW => ⟨⟨(), rfl, trivial, by rw [ht]; omega, fun d hd => ?_⟩, hS.F ht⟩) hS.2.2 (show decode cX0_init 28 = .ok (.return_, 1) by decide +kernel)
  rw [ht]
  rcases List.mem_cons.mp hd with rfl | hd
  · have h9 := hB.2.1
    rw [fsK_full (cA := cA) hfull] at h9
    exact h9
  · exact (hB.2.2 (d, kcell (adZ z) cA s0 d) (List.mem_map.mpr ⟨d, hd, rfl⟩)).1
set_option maxHeartbeats 4000000 in
set_option maxRecDepth 100000 in
theorem c_kp : CM yX1_init cX1_init 1 25 1 2 1024 (ds_1 25) (fun _ => []) := by
  intro l D cA z
  have ho : cls 25 = 1 := rfl
  have h35 : 25 < 35 := by decide
  obtain ⟨hp_f0, hp_f1⟩ := ps_1 25 h35 ho
  refine Met.ofW (cc := cX1_init) (maxL := 1) (ret := none) (by decide) rfl ?_
  intro p e s m args below meth c s₁ B hml hv
  obtain ⟨rfl, hz, he, hK, hex⟩ := hv
  have hx := B.exec
  have hb := B.bytes
  have hr := B.returns
  have hts0 := atoms_spec (ws := .code yX1_init cX1_init 1 none :: gtb) B.pre
  have hown : s.vm.findClass RX1 = some m.cls := findClass_of_methodNamed B.named
  have hlocks := B.notSynchronized
  have hin : meth.name = "<init>" := (name_of_methodNamed B.named B.method).1
  have hts : ∀ w ∈ gtb, w.before _ s = true := fun w h => hts0 w (List.mem_cons_of_mem _ h)
  have hC : CIc p s m _ meth c cX1_init 1 D cA RX1 := ⟨⟨hx, hb, hml, hown, hin⟩, hts, hK⟩
  have hS : va_S (fun q => z + pos (25, 0) ≤ q) s.heap s.heap [] := va_S.rf
  have hB : CB D z (pos (25, 0) + 1) 25 (fun _ => false) (fnL (adZ z) cA []) s.heap := ⟨by omega, he, fun q hq => by cases hq⟩
  have hz : s.heap.size = z + (pos (25, 0) + 1) := by omega
  have hl := lv_entry ([.ref (z + pos (25, 0))]) (n := 1) (Nat.le_of_ble_eq_true rfl)
  rw [lg_entry_eq]
  generalize (lg_sl ([.ref (z + pos (25, 0))]) ++ List.replicate (1 - (lg_sl ([.ref (z + pos (25, 0))])).length) Slot.unset).toArray = ls at hl ⊢
  have hl : lv_has ls 1 [(0, .ref (z + pos (25, 0)))] := hl
  refine lv_aload_n (k := 0) (i := 0) hx hb (show decode cX1_init 0 = .ok (.aload_n 0, 1) by decide +kernel) rfl (lv_at hl 0 rfl) ?_
  refine W.objInit hx hb hown (hts _ (gk_2 126 rfl rfl)) (hts _ (gk_1 26 rfl rfl)) (hts _ (gk_1 27 rfl rfl)) rfl (by rw [hml]; exact hl.1) rfl (show decode cX1_init 1 = .ok (.invokespecial 3, 3) by decide +kernel) (Nat.le_of_ble_eq_true rfl) (Nat.le_of_ble_eq_true rfl) ?_
  refine W.eq (g2 := F0 m 4 ls []) rfl ?_
  -- field 0, from 4
  refine lv_aload_n (k := 0) (i := 0) hx hb (show decode cX1_init 4 = .ok (.aload_n 0, 1) by decide +kernel) rfl (lv_at hl 0 rfl) ?_
  refine lv_sipush (n := 512) (v := 512) hx hb (show decode cX1_init 5 = .ok (.sipush 512, 3) by decide +kernel) (by decide +kernel) ?_
  refine st_na hC hS hB hz (idx := 11) (ci := 1) (N := 5) (k := 0) (T := TX1) (kd := 3) (N' := 512) (t0 := 0) (dv := .int 0) (x := 512) (atype := .int) ho rfl (by decide) rfl (fun w => absurd w.2 (show ¬ 0 = 41 by decide)) (Or.inl ⟨rfl, rfl, rfl, rfl, rfl⟩) hp_f0 (gk_1 47 rfl rfl) (gk_2 127 rfl rfl) (by decide +kernel) (by decide +kernel) (by decide +kernel) (Nat.le_of_ble_eq_true rfl) (Nat.le_of_ble_eq_true rfl) (Nat.le_of_ble_eq_true rfl) (show decode cX1_init 8 = .ok (.newarray .int, 2) by decide +kernel) (show decode cX1_init 10 = .ok (.putfield 11, 3) by decide +kernel) (fun H1 locs1 hB1 hz1 hf1 hS1 => ?_)
  clear hB hz hS hf1
  have hB : CB D z (pos (25, 0) + 2) 25 (addS (fun _ => false) 0) (fnL (adZ z) cA ((25, 1) :: [])) H1 := hB1
  have hz : H1.size = z + (pos (25, 0) + 2) := hz1
  have hS := hS1
  clear hB1 hz1 hS1
  -- field 1, from 13
  refine lv_aload_n (k := 0) (i := 0) hx hb (show decode cX1_init 13 = .ok (.aload_n 0, 1) by decide +kernel) rfl (lv_at hl 0 rfl) ?_
  refine lv_sipush (n := 512) (v := 512) hx hb (show decode cX1_init 14 = .ok (.sipush 512, 3) by decide +kernel) (by decide +kernel) ?_
  refine st_na hC hS hB hz (idx := 15) (ci := 1) (N := 5) (k := 1) (T := TX1) (kd := 3) (N' := 512) (t0 := 0) (dv := .int 0) (x := 512) (atype := .int) ho rfl (by decide) rfl (fun w => absurd w.2 (show ¬ 1 = 41 by decide)) (Or.inl ⟨rfl, rfl, rfl, rfl, rfl⟩) hp_f1 (gk_1 47 rfl rfl) (gk_2 128 rfl rfl) (by decide +kernel) (by decide +kernel) (by decide +kernel) (Nat.le_of_ble_eq_true rfl) (Nat.le_of_ble_eq_true rfl) (Nat.le_of_ble_eq_true rfl) (show decode cX1_init 17 = .ok (.newarray .int, 2) by decide +kernel) (show decode cX1_init 19 = .ok (.putfield 15, 3) by decide +kernel) (fun H1 locs1 hB1 hz1 hf1 hS1 => ?_)
  clear hB hz hS hf1
  have hB : CB D z (pos (25, 0) + 3) 25 (addS (addS (fun _ => false) 0) 1) (fnL (adZ z) cA ((25, 2) :: ((25, 1) :: []))) H1 := hB1
  have hz : H1.size = z + (pos (25, 0) + 3) := hz1
  have hS := hS1
  clear hB1 hz1 hS1
  refine W.widen (k := 2) (n := 1024) (Nat.le_of_ble_eq_true rfl) (Nat.le_of_ble_eq_true rfl) ?_
  have hfull : ∀ j, j < nF (cls 25) → (addS (addS (fun _ => false) 0) 1) j = true ∨ fieldV (adZ z) s0 25 j = dvF (ftab (cls 25) j).1 := by
    intro j hj
    rw [ho] at hj ⊢
    have hd : ∀ j, j < nF 1 → (addS (addS (fun _ => false) 0) 1) j = true ∨ (ftab 1 j).1 < 3 := by decide +kernel
    by_cases q : (addS (addS (fun _ => false) 0) 1) j = true
    · exact Or.inl q
    · refine Or.inr ?_
      have h3 := (hd j hj).resolve_left q
      rw [← ho] at h3 ⊢
      refine fv_def h3 (if_neg (fun w => ?_))
      obtain ⟨w, _⟩ := w
      exact absurd w (by decide)
  refine W.vret hx hb hr (fun t ht hW => ⟨⟨(), rfl, trivial, by rw [ht]; omega, fun d hd => ?_⟩, hS.F ht⟩) hS.2.2 (show decode cX1_init 22 = .ok (.return_, 1) by decide +kernel)
  rw [ht]
  rcases List.mem_cons.mp hd with rfl | hd
  · have h9 := hB.2.1
    rw [fsK_full (cA := cA) hfull] at h9
    exact h9
  · exact (hB.2.2 (d, kcell (adZ z) cA s0 d) (List.mem_map.mpr ⟨d, hd, rfl⟩)).1
set_option maxHeartbeats 4000000 in
set_option maxRecDepth 100000 in
theorem c_wp : CM yX10_init cX10_init 1 26 1 5 29 (ds_10 26) (fun _ => []) := by
  intro l D cA z
  have ho : cls 26 = 10 := rfl
  have h35 : 26 < 35 := by decide
  obtain ⟨hp_f0, hp_f1, hp_f3, hp_f4, hp_f5⟩ := ps_10 26 h35 ho
  refine Met.ofW (cc := cX10_init) (maxL := 1) (ret := none) (by decide) rfl ?_
  intro p e s m args below meth c s₁ B hml hv
  obtain ⟨rfl, hz, he, hK, hex⟩ := hv
  have hx := B.exec
  have hb := B.bytes
  have hr := B.returns
  have hts0 := atoms_spec (ws := .code yX10_init cX10_init 1 none :: gtb) B.pre
  have hown : s.vm.findClass RX10 = some m.cls := findClass_of_methodNamed B.named
  have hlocks := B.notSynchronized
  have hin : meth.name = "<init>" := (name_of_methodNamed B.named B.method).1
  have hts : ∀ w ∈ gtb, w.before _ s = true := fun w h => hts0 w (List.mem_cons_of_mem _ h)
  have hC : CIc p s m _ meth c cX10_init 1 D cA RX10 := ⟨⟨hx, hb, hml, hown, hin⟩, hts, hK⟩
  have hS : va_S (fun q => z + pos (26, 0) ≤ q) s.heap s.heap [] := va_S.rf
  have hB : CB D z (pos (26, 0) + 1) 26 (fun _ => false) (fnL (adZ z) cA []) s.heap := ⟨by omega, he, fun q hq => by cases hq⟩
  have hz : s.heap.size = z + (pos (26, 0) + 1) := by omega
  have hl := lv_entry ([.ref (z + pos (26, 0))]) (n := 1) (Nat.le_of_ble_eq_true rfl)
  rw [lg_entry_eq]
  generalize (lg_sl ([.ref (z + pos (26, 0))]) ++ List.replicate (1 - (lg_sl ([.ref (z + pos (26, 0))])).length) Slot.unset).toArray = ls at hl ⊢
  have hl : lv_has ls 1 [(0, .ref (z + pos (26, 0)))] := hl
  refine lv_aload_n (k := 0) (i := 0) hx hb (show decode cX10_init 0 = .ok (.aload_n 0, 1) by decide +kernel) rfl (lv_at hl 0 rfl) ?_
  refine W.objInit hx hb hown (hts _ (gk_2 151 rfl rfl)) (hts _ (gk_1 26 rfl rfl)) (hts _ (gk_1 27 rfl rfl)) rfl (by rw [hml]; exact hl.1) rfl (show decode cX10_init 1 = .ok (.invokespecial 3, 3) by decide +kernel) (Nat.le_of_ble_eq_true rfl) (Nat.le_of_ble_eq_true rfl) ?_
  refine W.eq (g2 := F0 m 4 ls []) rfl ?_
  -- field 0, from 4
  refine lv_aload_n (k := 0) (i := 0) hx hb (show decode cX10_init 4 = .ok (.aload_n 0, 1) by decide +kernel) rfl (lv_at hl 0 rfl) ?_
  refine lv_iconst (n := 3) (v := 3) hx hb (show decode cX10_init 5 = .ok (.iconst 3, 1) by decide +kernel) (by decide +kernel) ?_
  refine st_na hC hS hB hz (idx := 11) (ci := 10) (N := 9) (k := 0) (T := TX10) (kd := 3) (N' := 3) (t0 := 0) (dv := .int 0) (x := 3) (atype := .int) ho rfl (by decide) rfl (fun w => absurd w.2 (show ¬ 0 = 41 by decide)) (Or.inl ⟨rfl, rfl, rfl, rfl, rfl⟩) hp_f0 (gk_1 47 rfl rfl) (gk_2 152 rfl rfl) (by decide +kernel) (by decide +kernel) (by decide +kernel) (Nat.le_of_ble_eq_true rfl) (Nat.le_of_ble_eq_true rfl) (Nat.le_of_ble_eq_true rfl) (show decode cX10_init 6 = .ok (.newarray .int, 2) by decide +kernel) (show decode cX10_init 8 = .ok (.putfield 11, 3) by decide +kernel) (fun H1 locs1 hB1 hz1 hf1 hS1 => ?_)
  clear hB hz hS hf1
  have hB : CB D z (pos (26, 0) + 2) 26 (addS (fun _ => false) 0) (fnL (adZ z) cA ((26, 1) :: [])) H1 := hB1
  have hz : H1.size = z + (pos (26, 0) + 2) := hz1
  have hS := hS1
  clear hB1 hz1 hS1
  -- field 1, from 11
  refine lv_aload_n (k := 0) (i := 0) hx hb (show decode cX10_init 11 = .ok (.aload_n 0, 1) by decide +kernel) rfl (lv_at hl 0 rfl) ?_
  refine lv_iconst (n := 3) (v := 3) hx hb (show decode cX10_init 12 = .ok (.iconst 3, 1) by decide +kernel) (by decide +kernel) ?_
  refine st_na hC hS hB hz (idx := 15) (ci := 10) (N := 9) (k := 1) (T := TX10) (kd := 3) (N' := 3) (t0 := 0) (dv := .int 0) (x := 3) (atype := .int) ho rfl (by decide) rfl (fun w => absurd w.2 (show ¬ 1 = 41 by decide)) (Or.inl ⟨rfl, rfl, rfl, rfl, rfl⟩) hp_f1 (gk_1 47 rfl rfl) (gk_2 153 rfl rfl) (by decide +kernel) (by decide +kernel) (by decide +kernel) (Nat.le_of_ble_eq_true rfl) (Nat.le_of_ble_eq_true rfl) (Nat.le_of_ble_eq_true rfl) (show decode cX10_init 13 = .ok (.newarray .int, 2) by decide +kernel) (show decode cX10_init 15 = .ok (.putfield 15, 3) by decide +kernel) (fun H1 locs1 hB1 hz1 hf1 hS1 => ?_)
  clear hB hz hS hf1
  have hB : CB D z (pos (26, 0) + 3) 26 (addS (addS (fun _ => false) 0) 1) (fnL (adZ z) cA ((26, 2) :: ((26, 1) :: []))) H1 := hB1
  have hz : H1.size = z + (pos (26, 0) + 3) := hz1
  have hS := hS1
  clear hB1 hz1 hS1
  -- field 3, from 18
  refine lv_aload_n (k := 0) (i := 0) hx hb (show decode cX10_init 18 = .ok (.aload_n 0, 1) by decide +kernel) rfl (lv_at hl 0 rfl) ?_
  refine lv_bipush (n := 9) (v := 9) hx hb (show decode cX10_init 19 = .ok (.bipush 9, 2) by decide +kernel) (by decide +kernel) ?_
  refine st_na hC hS hB hz (idx := 20) (ci := 10) (N := 9) (k := 3) (T := TX10) (kd := 3) (N' := 9) (t0 := 0) (dv := .int 0) (x := 9) (atype := .int) ho rfl (by decide) rfl (fun w => absurd w.2 (show ¬ 3 = 41 by decide)) (Or.inl ⟨rfl, rfl, rfl, rfl, rfl⟩) hp_f3 (gk_1 47 rfl rfl) (gk_2 155 rfl rfl) (by decide +kernel) (by decide +kernel) (by decide +kernel) (Nat.le_of_ble_eq_true rfl) (Nat.le_of_ble_eq_true rfl) (Nat.le_of_ble_eq_true rfl) (show decode cX10_init 21 = .ok (.newarray .int, 2) by decide +kernel) (show decode cX10_init 23 = .ok (.putfield 20, 3) by decide +kernel) (fun H1 locs1 hB1 hz1 hf1 hS1 => ?_)
  clear hB hz hS hf1
  have hB : CB D z (pos (26, 0) + 4) 26 (addS (addS (addS (fun _ => false) 0) 1) 3) (fnL (adZ z) cA ((26, 4) :: ((26, 2) :: ((26, 1) :: [])))) H1 := hB1
  have hz : H1.size = z + (pos (26, 0) + 4) := hz1
  have hS := hS1
  clear hB1 hz1 hS1
  -- field 4, from 26
  refine lv_aload_n (k := 0) (i := 0) hx hb (show decode cX10_init 26 = .ok (.aload_n 0, 1) by decide +kernel) rfl (lv_at hl 0 rfl) ?_
  refine lv_bipush (n := 9) (v := 9) hx hb (show decode cX10_init 27 = .ok (.bipush 9, 2) by decide +kernel) (by decide +kernel) ?_
  refine st_na hC hS hB hz (idx := 23) (ci := 10) (N := 9) (k := 4) (T := TX10) (kd := 4) (N' := 9) (t0 := 1) (dv := .long 0) (x := 9) (atype := .long) ho rfl (by decide) rfl (fun w => absurd w.2 (show ¬ 4 = 41 by decide)) (Or.inr (Or.inl ⟨rfl, rfl, rfl, rfl, rfl⟩)) hp_f4 (gk_2 21 rfl rfl) (gk_2 156 rfl rfl) (by decide +kernel) (by decide +kernel) (by decide +kernel) (Nat.le_of_ble_eq_true rfl) (Nat.le_of_ble_eq_true rfl) (Nat.le_of_ble_eq_true rfl) (show decode cX10_init 29 = .ok (.newarray .long, 2) by decide +kernel) (show decode cX10_init 31 = .ok (.putfield 23, 3) by decide +kernel) (fun H1 locs1 hB1 hz1 hf1 hS1 => ?_)
  clear hB hz hS hf1
  have hB : CB D z (pos (26, 0) + 5) 26 (addS (addS (addS (addS (fun _ => false) 0) 1) 3) 4) (fnL (adZ z) cA ((26, 5) :: ((26, 4) :: ((26, 2) :: ((26, 1) :: []))))) H1 := hB1
  have hz : H1.size = z + (pos (26, 0) + 5) := hz1
  have hS := hS1
  clear hB1 hz1 hS1
  -- field 5, from 34
  refine lv_aload_n (k := 0) (i := 0) hx hb (show decode cX10_init 34 = .ok (.aload_n 0, 1) by decide +kernel) rfl (lv_at hl 0 rfl) ?_
  refine lv_iconst (n := 5) (v := 5) hx hb (show decode cX10_init 35 = .ok (.iconst 5, 1) by decide +kernel) (by decide +kernel) ?_
  refine st_na hC hS hB hz (idx := 27) (ci := 10) (N := 9) (k := 5) (T := TX10) (kd := 4) (N' := 5) (t0 := 1) (dv := .long 0) (x := 5) (atype := .long) ho rfl (by decide) rfl (fun w => absurd w.2 (show ¬ 5 = 41 by decide)) (Or.inr (Or.inl ⟨rfl, rfl, rfl, rfl, rfl⟩)) hp_f5 (gk_2 21 rfl rfl) (gk_2 157 rfl rfl) (by decide +kernel) (by decide +kernel) (by decide +kernel) (Nat.le_of_ble_eq_true rfl) (Nat.le_of_ble_eq_true rfl) (Nat.le_of_ble_eq_true rfl) (show decode cX10_init 36 = .ok (.newarray .long, 2) by decide +kernel) (show decode cX10_init 38 = .ok (.putfield 27, 3) by decide +kernel) (fun H1 locs1 hB1 hz1 hf1 hS1 => ?_)
  clear hB hz hS hf1
  have hB : CB D z (pos (26, 0) + 6) 26 (addS (addS (addS (addS (addS (fun _ => false) 0) 1) 3) 4) 5) (fnL (adZ z) cA ((26, 6) :: ((26, 5) :: ((26, 4) :: ((26, 2) :: ((26, 1) :: [])))))) H1 := hB1
  have hz : H1.size = z + (pos (26, 0) + 6) := hz1
  have hS := hS1
  clear hB1 hz1 hS1
  refine W.widen (k := 5) (n := 29) (Nat.le_of_ble_eq_true rfl) (Nat.le_of_ble_eq_true rfl) ?_
  have hfull : ∀ j, j < nF (cls 26) → (addS (addS (addS (addS (addS (fun _ => false) 0) 1) 3) 4) 5) j = true ∨ fieldV (adZ z) s0 26 j = dvF (ftab (cls 26) j).1 := by
    intro j hj
    rw [ho] at hj ⊢
    have hd : ∀ j, j < nF 10 → (addS (addS (addS (addS (addS (fun _ => false) 0) 1) 3) 4) 5) j = true ∨ (ftab 10 j).1 < 3 := by decide +kernel
    by_cases q : (addS (addS (addS (addS (addS (fun _ => false) 0) 1) 3) 4) 5) j = true
    · exact Or.inl q
    · refine Or.inr ?_
      have h3 := (hd j hj).resolve_left q
      rw [← ho] at h3 ⊢
      refine fv_def h3 (if_neg (fun w => ?_))
      obtain ⟨w, _⟩ := w
      exact absurd w (by decide)
  refine W.vret hx hb hr (fun t ht hW => ⟨⟨(), rfl, trivial, by rw [ht]; omega, fun d hd => ?_⟩, hS.F ht⟩) hS.2.2 (show decode cX10_init 41 = .ok (.return_, 1) by decide +kernel)
  rw [ht]
  rcases List.mem_cons.mp hd with rfl | hd
  · have h9 := hB.2.1
    rw [fsK_full (cA := cA) hfull] at h9
    exact h9
  · exact (hB.2.2 (d, kcell (adZ z) cA s0 d) (List.mem_map.mpr ⟨d, hd, rfl⟩)).1
set_option maxHeartbeats 4000000 in
set_option maxRecDepth 100000 in
theorem c_sp : CM yX4_init cX4_init 1 27 1 1 2405 (ds_4 27) (fun _ => []) := by
  intro l D cA z
  have ho : cls 27 = 4 := rfl
  have h35 : 27 < 35 := by decide
  have hp_f0 := ps_4 27 h35 ho
  refine Met.ofW (cc := cX4_init) (maxL := 1) (ret := none) (by decide) rfl ?_
  intro p e s m args below meth c s₁ B hml hv
  obtain ⟨rfl, hz, he, hK, hex⟩ := hv
  have hx := B.exec
  have hb := B.bytes
  have hr := B.returns
  have hts0 := atoms_spec (ws := .code yX4_init cX4_init 1 none :: gtb) B.pre
  have hown : s.vm.findClass RX4 = some m.cls := findClass_of_methodNamed B.named
  have hlocks := B.notSynchronized
  have hin : meth.name = "<init>" := (name_of_methodNamed B.named B.method).1
  have hts : ∀ w ∈ gtb, w.before _ s = true := fun w h => hts0 w (List.mem_cons_of_mem _ h)
  have hC : CIc p s m _ meth c cX4_init 1 D cA RX4 := ⟨⟨hx, hb, hml, hown, hin⟩, hts, hK⟩
  have hS : va_S (fun q => z + pos (27, 0) ≤ q) s.heap s.heap [] := va_S.rf
  have hB : CB D z (pos (27, 0) + 1) 27 (fun _ => false) (fnL (adZ z) cA []) s.heap := ⟨by omega, he, fun q hq => by cases hq⟩
  have hz : s.heap.size = z + (pos (27, 0) + 1) := by omega
  have hl := lv_entry ([.ref (z + pos (27, 0))]) (n := 1) (Nat.le_of_ble_eq_true rfl)
  rw [lg_entry_eq]
  generalize (lg_sl ([.ref (z + pos (27, 0))]) ++ List.replicate (1 - (lg_sl ([.ref (z + pos (27, 0))])).length) Slot.unset).toArray = ls at hl ⊢
  have hl : lv_has ls 1 [(0, .ref (z + pos (27, 0)))] := hl
  refine lv_aload_n (k := 0) (i := 0) hx hb (show decode cX4_init 0 = .ok (.aload_n 0, 1) by decide +kernel) rfl (lv_at hl 0 rfl) ?_
  refine W.objInit hx hb hown (hts _ (gk_2 188 rfl rfl)) (hts _ (gk_1 26 rfl rfl)) (hts _ (gk_1 27 rfl rfl)) rfl (by rw [hml]; exact hl.1) rfl (show decode cX4_init 1 = .ok (.invokespecial 3, 3) by decide +kernel) (Nat.le_of_ble_eq_true rfl) (Nat.le_of_ble_eq_true rfl) ?_
  refine W.eq (g2 := F0 m 4 ls []) rfl ?_
  -- field 0, from 4
  refine lv_aload_n (k := 0) (i := 0) hx hb (show decode cX4_init 4 = .ok (.aload_n 0, 1) by decide +kernel) rfl (lv_at hl 0 rfl) ?_
  refine lv_sipush (n := 2405) (v := 2405) hx hb (show decode cX4_init 5 = .ok (.sipush 2405, 3) by decide +kernel) (by decide +kernel) ?_
  refine st_na hC hS hB hz (idx := 13) (ci := 4) (N := 4) (k := 0) (T := TX4) (kd := 3) (N' := 2405) (t0 := 0) (dv := .int 0) (x := 2405) (atype := .int) ho rfl (by decide) rfl (fun w => absurd w.2 (show ¬ 0 = 41 by decide)) (Or.inl ⟨rfl, rfl, rfl, rfl, rfl⟩) hp_f0 (gk_1 47 rfl rfl) (gk_2 189 rfl rfl) (by decide +kernel) (by decide +kernel) (by decide +kernel) (Nat.le_of_ble_eq_true rfl) (Nat.le_of_ble_eq_true rfl) (Nat.le_of_ble_eq_true rfl) (show decode cX4_init 8 = .ok (.newarray .int, 2) by decide +kernel) (show decode cX4_init 10 = .ok (.putfield 13, 3) by decide +kernel) (fun H1 locs1 hB1 hz1 hf1 hS1 => ?_)
  clear hB hz hS hf1
  have hB : CB D z (pos (27, 0) + 2) 27 (addS (fun _ => false) 0) (fnL (adZ z) cA ((27, 1) :: [])) H1 := hB1
  have hz : H1.size = z + (pos (27, 0) + 2) := hz1
  have hS := hS1
  clear hB1 hz1 hS1
  refine W.widen (k := 1) (n := 2405) (Nat.le_of_ble_eq_true rfl) (Nat.le_of_ble_eq_true rfl) ?_
  have hfull : ∀ j, j < nF (cls 27) → (addS (fun _ => false) 0) j = true ∨ fieldV (adZ z) s0 27 j = dvF (ftab (cls 27) j).1 := by
    intro j hj
    rw [ho] at hj ⊢
    have hd : ∀ j, j < nF 4 → (addS (fun _ => false) 0) j = true ∨ (ftab 4 j).1 < 3 := by decide +kernel
    by_cases q : (addS (fun _ => false) 0) j = true
    · exact Or.inl q
    · refine Or.inr ?_
      have h3 := (hd j hj).resolve_left q
      rw [← ho] at h3 ⊢
      refine fv_def h3 (if_neg (fun w => ?_))
      obtain ⟨w, _⟩ := w
      exact absurd w (by decide)
  refine W.vret hx hb hr (fun t ht hW => ⟨⟨(), rfl, trivial, by rw [ht]; omega, fun d hd => ?_⟩, hS.F ht⟩) hS.2.2 (show decode cX4_init 13 = .ok (.return_, 1) by decide +kernel)
  rw [ht]
  rcases List.mem_cons.mp hd with rfl | hd
  · have h9 := hB.2.1
    rw [fsK_full (cA := cA) hfull] at h9
    exact h9
  · exact (hB.2.2 (d, kcell (adZ z) cA s0 d) (List.mem_map.mpr ⟨d, hd, rfl⟩)).1
set_option maxHeartbeats 4000000 in
set_option maxRecDepth 100000 in
theorem c_sd {o : Nat} (ho : cls o = 7) : CM yX7_init cX7_init 1 o 2 21 212 (ds_7 o) (fun _ => []) := by
  intro l D cA z
  have h35 : o < 35 := cls_lt ho (by decide)
  obtain ⟨hp_f0, hp_f1, hp_f2, hp_f3, hp_f4, hp_f5, hp_f13⟩ := ps_7 o h35 ho
  refine Met.ofW (cc := cX7_init) (maxL := 1) (ret := none) (by decide) rfl ?_
  intro p e s m args below meth c s₁ B hml hv
  obtain ⟨rfl, hz, he, hK, hex⟩ := hv
  have hx := B.exec
  have hb := B.bytes
  have hr := B.returns
  have hts0 := atoms_spec (ws := .code yX7_init cX7_init 1 none :: gtb) B.pre
  have hown : s.vm.findClass RX7 = some m.cls := findClass_of_methodNamed B.named
  have hlocks := B.notSynchronized
  have hin : meth.name = "<init>" := (name_of_methodNamed B.named B.method).1
  have hts : ∀ w ∈ gtb, w.before _ s = true := fun w h => hts0 w (List.mem_cons_of_mem _ h)
  have hC : CIc p s m _ meth c cX7_init 1 D cA RX7 := ⟨⟨hx, hb, hml, hown, hin⟩, hts, hK⟩
  have hS : va_S (fun q => z + pos (o, 0) ≤ q) s.heap s.heap [] := va_S.rf
  have hB : CB D z (pos (o, 0) + 1) o (fun _ => false) (fnL (adZ z) cA []) s.heap := ⟨by omega, he, fun q hq => by cases hq⟩
  have hz : s.heap.size = z + (pos (o, 0) + 1) := by omega
  have hl := lv_entry ([.ref (z + pos (o, 0))]) (n := 1) (Nat.le_of_ble_eq_true rfl)
  rw [lg_entry_eq]
  generalize (lg_sl ([.ref (z + pos (o, 0))]) ++ List.replicate (1 - (lg_sl ([.ref (z + pos (o, 0))])).length) Slot.unset).toArray = ls at hl ⊢
  have hl : lv_has ls 1 [(0, .ref (z + pos (o, 0)))] := hl
  refine lv_aload_n (k := 0) (i := 0) hx hb (show decode cX7_init 0 = .ok (.aload_n 0, 1) by decide +kernel) rfl (lv_at hl 0 rfl) ?_
  refine W.objInit hx hb hown (hts _ (gk_1 53 rfl rfl)) (hts _ (gk_1 26 rfl rfl)) (hts _ (gk_1 27 rfl rfl)) rfl (by rw [hml]; exact hl.1) rfl (show decode cX7_init 1 = .ok (.invokespecial 3, 3) by decide +kernel) (Nat.le_of_ble_eq_true rfl) (Nat.le_of_ble_eq_true rfl) ?_
  refine W.eq (g2 := F0 m 4 ls []) rfl ?_
  -- field 0, from 4
  refine lv_aload_n (k := 0) (i := 0) hx hb (show decode cX7_init 4 = .ok (.aload_n 0, 1) by decide +kernel) rfl (lv_at hl 0 rfl) ?_
  have hpo := hp_f0
  refine st_new hC hS hz (idx := 9) (o' := o + 1) (ci := 5) (N := 17) (C := RX5) (T := TX5) (cs7_0 ho) rfl hpo (gk_1 54 rfl rfl) (gk_1 55 rfl rfl) (gk_1 4 rfl rfl) (Nat.le_of_ble_eq_true rfl) (Nat.le_of_ble_eq_true rfl) (show decode cX7_init 5 = .ok (.new 9, 3) by decide +kernel) (fun H1 he1 hz1 o1 hS1 => ?_)
  refine lv_dup hx hb (show decode cX7_init 8 = .ok (.dup, 1) by decide +kernel) rfl ?_
  refine st_callN hC hS1 hex hz1 (idx := 11) (o' := o + 1) (As := fun _ => []) (rest := [.ref (z + pos (o + 1, 0)), .ref (z + pos (o, 0))]) (np := 0) hpo (fun q h => by omega) he1 (c_sh (o := o + 1) (cs7_0 ho)) (gk_1 58 rfl rfl) (gk_1 4 rfl rfl) (List.mem_of_getElem? (i := 9) rfl) (gk_1 57 rfl rfl) rfl ⟨by decide, by decide, by decide +kernel⟩ rfl ⟨(Nat.le_of_ble_eq_true rfl), (Nat.le_of_ble_eq_true rfl)⟩ hl.1 (Nat.le_of_ble_eq_true rfl) (Nat.le_of_ble_eq_true rfl) (Nat.le_of_ble_eq_true rfl) (show decode cX7_init 9 = .ok (.invokespecial 11, 3) by decide +kernel) (fun H2 locs2 hds hz2 hF hS2 => ?_)
  have hB1 : CB D z (pos (o, 0) + 11) o (fun _ => false) (fnL (adZ z) cA (ds_5 (o + 1) ++ [])) H2 := (hB.grow (pos (o, 0) + 11) (by omega) (fun q hq => (hF q hq).trans (o1 q hq))).addL hds (fun d hd => by have := pd_5 (o + 1) (cls_lt (cs7_0 ho) (by decide)) (cs7_0 ho) d hd; omega)
  refine st_put hC hS2 hB1 (idx := 12) (N := 14) (k := 0) (T := TX7) ho rfl (by decide) (gk_1 200 rfl rfl) (fv_obj (o' := o + 1) (by rw [ho]; rfl) (by rw [ho]; rfl)) (tyX7_ok 0 (by decide)) rfl rfl (show decode cX7_init 12 = .ok (.putfield 12, 3) by decide +kernel) (fun H3 locs3 hB2 z3 f3 hS3 => ?_)
  have hz2 : H3.size = z + (pos (o, 0) + 11) := by omega
  clear hB hz hS
  have hB := hB2
  have hz := hz2
  have hS := hS3
  clear hB1 hB2 hz1 hz2 hS1 hS2 hS3 he1 o1 hF hds z3 hpo
  -- field 1, from 15
  refine lv_aload_n (k := 0) (i := 0) hx hb (show decode cX7_init 15 = .ok (.aload_n 0, 1) by decide +kernel) rfl (lv_at hl 0 rfl) ?_
  have hpo := hp_f1
  refine st_new hC hS hz (idx := 18) (o' := o + 2) (ci := 9) (N := 8) (C := RX9) (T := TX9) (cs7_1 ho) rfl hpo (gk_1 155 rfl rfl) (gk_1 156 rfl rfl) (gk_1 5 rfl rfl) (Nat.le_of_ble_eq_true rfl) (Nat.le_of_ble_eq_true rfl) (show decode cX7_init 16 = .ok (.new 18, 3) by decide +kernel) (fun H1 he1 hz1 o1 hS1 => ?_)
  refine lv_dup hx hb (show decode cX7_init 19 = .ok (.dup, 1) by decide +kernel) rfl ?_
  refine st_callN hC hS1 hex hz1 (idx := 20) (o' := o + 2) (As := fun _ => []) (rest := [.ref (z + pos (o + 2, 0)), .ref (z + pos (o, 0))]) (np := 0) hpo (fun q h => by omega) he1 (c_td (o := o + 2) (cs7_1 ho)) (gk_1 159 rfl rfl) (gk_1 5 rfl rfl) (List.mem_of_getElem? (i := 10) rfl) (gk_1 158 rfl rfl) rfl ⟨by decide, by decide, by decide +kernel⟩ rfl ⟨(Nat.le_of_ble_eq_true rfl), (Nat.le_of_ble_eq_true rfl)⟩ hl.1 (Nat.le_of_ble_eq_true rfl) (Nat.le_of_ble_eq_true rfl) (Nat.le_of_ble_eq_true rfl) (show decode cX7_init 20 = .ok (.invokespecial 20, 3) by decide +kernel) (fun H2 locs2 hds hz2 hF hS2 => ?_)
  have hB1 : CB D z (pos (o, 0) + 17) o (addS (fun _ => false) 0) (fnL (adZ z) cA (ds_9 (o + 2) ++ (ds_5 (o + 1) ++ []))) H2 := (hB.grow (pos (o, 0) + 17) (by omega) (fun q hq => (hF q hq).trans (o1 q hq))).addL hds (fun d hd => by have := pd_9 (o + 2) (cls_lt (cs7_1 ho) (by decide)) (cs7_1 ho) d hd; omega)
  refine st_put hC hS2 hB1 (idx := 21) (N := 14) (k := 1) (T := TX7) ho rfl (by decide) (gk_1 203 rfl rfl) (fv_obj (o' := o + 2) (by rw [ho]; rfl) (by rw [ho]; rfl)) (tyX7_ok 1 (by decide)) rfl rfl (show decode cX7_init 23 = .ok (.putfield 21, 3) by decide +kernel) (fun H3 locs3 hB2 z3 f3 hS3 => ?_)
  have hz2 : H3.size = z + (pos (o, 0) + 17) := by omega
  clear hB hz hS
  have hB := hB2
  have hz := hz2
  have hS := hS3
  clear hB1 hB2 hz1 hz2 hS1 hS2 hS3 he1 o1 hF hds z3 hpo
  -- field 2, from 26
  refine lv_aload_n (k := 0) (i := 0) hx hb (show decode cX7_init 26 = .ok (.aload_n 0, 1) by decide +kernel) rfl (lv_at hl 0 rfl) ?_
  refine lv_bipush (n := 10) (v := 10) hx hb (show decode cX7_init 27 = .ok (.bipush 10, 2) by decide +kernel) (by decide +kernel) ?_
  refine st_na hC hS hB hz (idx := 25) (ci := 7) (N := 14) (k := 2) (T := TX7) (kd := 3) (N' := 10) (t0 := 0) (dv := .int 0) (x := 10) (atype := .int) ho rfl (by decide) rfl (fun w => absurd w.2 (show ¬ 2 = 41 by decide)) (Or.inl ⟨rfl, rfl, rfl, rfl, rfl⟩) hp_f2 (gk_1 47 rfl rfl) (gk_1 205 rfl rfl) (by decide +kernel) (by decide +kernel) (by decide +kernel) (Nat.le_of_ble_eq_true rfl) (Nat.le_of_ble_eq_true rfl) (Nat.le_of_ble_eq_true rfl) (show decode cX7_init 29 = .ok (.newarray .int, 2) by decide +kernel) (show decode cX7_init 31 = .ok (.putfield 25, 3) by decide +kernel) (fun H1 locs1 hB1 hz1 hf1 hS1 => ?_)
  clear hB hz hS hf1
  have hB : CB D z (pos (o, 0) + 18) o (addS (addS (addS (fun _ => false) 0) 1) 2) (fnL (adZ z) cA ((o, 3) :: (ds_9 (o + 2) ++ (ds_5 (o + 1) ++ [])))) H1 := hB1
  have hz : H1.size = z + (pos (o, 0) + 18) := hz1
  have hS := hS1
  clear hB1 hz1 hS1
  -- field 3, from 34
  refine lv_aload_n (k := 0) (i := 0) hx hb (show decode cX7_init 34 = .ok (.aload_n 0, 1) by decide +kernel) rfl (lv_at hl 0 rfl) ?_
  refine lv_bipush (n := 10) (v := 10) hx hb (show decode cX7_init 35 = .ok (.bipush 10, 2) by decide +kernel) (by decide +kernel) ?_
  refine st_na hC hS hB hz (idx := 29) (ci := 7) (N := 14) (k := 3) (T := TX7) (kd := 3) (N' := 10) (t0 := 0) (dv := .int 0) (x := 10) (atype := .int) ho rfl (by decide) rfl (fun w => absurd w.2 (show ¬ 3 = 41 by decide)) (Or.inl ⟨rfl, rfl, rfl, rfl, rfl⟩) hp_f3 (gk_1 47 rfl rfl) (gk_1 208 rfl rfl) (by decide +kernel) (by decide +kernel) (by decide +kernel) (Nat.le_of_ble_eq_true rfl) (Nat.le_of_ble_eq_true rfl) (Nat.le_of_ble_eq_true rfl) (show decode cX7_init 37 = .ok (.newarray .int, 2) by decide +kernel) (show decode cX7_init 39 = .ok (.putfield 29, 3) by decide +kernel) (fun H1 locs1 hB1 hz1 hf1 hS1 => ?_)
  clear hB hz hS hf1
  have hB : CB D z (pos (o, 0) + 19) o (addS (addS (addS (addS (fun _ => false) 0) 1) 2) 3) (fnL (adZ z) cA ((o, 4) :: ((o, 3) :: (ds_9 (o + 2) ++ (ds_5 (o + 1) ++ []))))) H1 := hB1
  have hz : H1.size = z + (pos (o, 0) + 19) := hz1
  have hS := hS1
  clear hB1 hz1 hS1
  -- field 4, from 42
  refine lv_aload_n (k := 0) (i := 0) hx hb (show decode cX7_init 42 = .ok (.aload_n 0, 1) by decide +kernel) rfl (lv_at hl 0 rfl) ?_
  refine lv_bipush (n := 10) (v := 10) hx hb (show decode cX7_init 43 = .ok (.bipush 10, 2) by decide +kernel) (by decide +kernel) ?_
  refine st_na hC hS hB hz (idx := 32) (ci := 7) (N := 14) (k := 4) (T := TX7) (kd := 3) (N' := 10) (t0 := 0) (dv := .int 0) (x := 10) (atype := .int) ho rfl (by decide) rfl (fun w => absurd w.2 (show ¬ 4 = 41 by decide)) (Or.inl ⟨rfl, rfl, rfl, rfl, rfl⟩) hp_f4 (gk_1 47 rfl rfl) (gk_1 211 rfl rfl) (by decide +kernel) (by decide +kernel) (by decide +kernel) (Nat.le_of_ble_eq_true rfl) (Nat.le_of_ble_eq_true rfl) (Nat.le_of_ble_eq_true rfl) (show decode cX7_init 45 = .ok (.newarray .int, 2) by decide +kernel) (show decode cX7_init 47 = .ok (.putfield 32, 3) by decide +kernel) (fun H1 locs1 hB1 hz1 hf1 hS1 => ?_)
  clear hB hz hS hf1
  have hB : CB D z (pos (o, 0) + 20) o (addS (addS (addS (addS (addS (fun _ => false) 0) 1) 2) 3) 4) (fnL (adZ z) cA ((o, 5) :: ((o, 4) :: ((o, 3) :: (ds_9 (o + 2) ++ (ds_5 (o + 1) ++ [])))))) H1 := hB1
  have hz : H1.size = z + (pos (o, 0) + 20) := hz1
  have hS := hS1
  clear hB1 hz1 hS1
  -- field 5, from 50
  refine lv_aload_n (k := 0) (i := 0) hx hb (show decode cX7_init 50 = .ok (.aload_n 0, 1) by decide +kernel) rfl (lv_at hl 0 rfl) ?_
  refine lv_bipush (n := 10) (v := 10) hx hb (show decode cX7_init 51 = .ok (.bipush 10, 2) by decide +kernel) (by decide +kernel) ?_
  refine st_na hC hS hB hz (idx := 35) (ci := 7) (N := 14) (k := 5) (T := TX7) (kd := 3) (N' := 10) (t0 := 0) (dv := .int 0) (x := 10) (atype := .int) ho rfl (by decide) rfl (fun w => absurd w.2 (show ¬ 5 = 41 by decide)) (Or.inl ⟨rfl, rfl, rfl, rfl, rfl⟩) hp_f5 (gk_1 47 rfl rfl) (gk_1 214 rfl rfl) (by decide +kernel) (by decide +kernel) (by decide +kernel) (Nat.le_of_ble_eq_true rfl) (Nat.le_of_ble_eq_true rfl) (Nat.le_of_ble_eq_true rfl) (show decode cX7_init 53 = .ok (.newarray .int, 2) by decide +kernel) (show decode cX7_init 55 = .ok (.putfield 35, 3) by decide +kernel) (fun H1 locs1 hB1 hz1 hf1 hS1 => ?_)
  clear hB hz hS hf1
  have hB : CB D z (pos (o, 0) + 21) o (addS (addS (addS (addS (addS (addS (fun _ => false) 0) 1) 2) 3) 4) 5) (fnL (adZ z) cA ((o, 6) :: ((o, 5) :: ((o, 4) :: ((o, 3) :: (ds_9 (o + 2) ++ (ds_5 (o + 1) ++ []))))))) H1 := hB1
  have hz : H1.size = z + (pos (o, 0) + 21) := hz1
  have hS := hS1
  clear hB1 hz1 hS1
  -- field 13, from 58
  refine lv_aload_n (k := 0) (i := 0) hx hb (show decode cX7_init 58 = .ok (.aload_n 0, 1) by decide +kernel) rfl (lv_at hl 0 rfl) ?_
  refine lv_bipush (n := 9) (v := 9) hx hb (show decode cX7_init 59 = .ok (.bipush 9, 2) by decide +kernel) (by decide +kernel) ?_
  refine st_na hC hS hB hz (idx := 40) (ci := 7) (N := 14) (k := 13) (T := TX7) (kd := 4) (N' := 9) (t0 := 1) (dv := .long 0) (x := 9) (atype := .long) ho rfl (by decide) rfl (fun w => absurd w.2 (show ¬ 13 = 41 by decide)) (Or.inr (Or.inl ⟨rfl, rfl, rfl, rfl, rfl⟩)) hp_f13 (gk_2 21 rfl rfl) (gk_1 231 rfl rfl) (by decide +kernel) (by decide +kernel) (by decide +kernel) (Nat.le_of_ble_eq_true rfl) (Nat.le_of_ble_eq_true rfl) (Nat.le_of_ble_eq_true rfl) (show decode cX7_init 61 = .ok (.newarray .long, 2) by decide +kernel) (show decode cX7_init 63 = .ok (.putfield 40, 3) by decide +kernel) (fun H1 locs1 hB1 hz1 hf1 hS1 => ?_)
  clear hB hz hS hf1
  have hB : CB D z (pos (o, 0) + 22) o (addS (addS (addS (addS (addS (addS (addS (fun _ => false) 0) 1) 2) 3) 4) 5) 13) (fnL (adZ z) cA ((o, 14) :: ((o, 6) :: ((o, 5) :: ((o, 4) :: ((o, 3) :: (ds_9 (o + 2) ++ (ds_5 (o + 1) ++ [])))))))) H1 := hB1
  have hz : H1.size = z + (pos (o, 0) + 22) := hz1
  have hS := hS1
  clear hB1 hz1 hS1
  refine W.widen (k := 21) (n := 212) (Nat.le_of_ble_eq_true rfl) (Nat.le_of_ble_eq_true rfl) ?_
  have hfull : ∀ j, j < nF (cls o) → (addS (addS (addS (addS (addS (addS (addS (fun _ => false) 0) 1) 2) 3) 4) 5) 13) j = true ∨ fieldV (adZ z) s0 o j = dvF (ftab (cls o) j).1 := by
    intro j hj
    rw [ho] at hj ⊢
    have hd : ∀ j, j < nF 7 → (addS (addS (addS (addS (addS (addS (addS (fun _ => false) 0) 1) 2) 3) 4) 5) 13) j = true ∨ (ftab 7 j).1 < 3 := by decide +kernel
    by_cases q : (addS (addS (addS (addS (addS (addS (addS (fun _ => false) 0) 1) 2) 3) 4) 5) 13) j = true
    · exact Or.inl q
    · refine Or.inr ?_
      have h3 := (hd j hj).resolve_left q
      rw [← ho] at h3 ⊢
      refine fv_def h3 (if_neg (fun w => ?_))
      obtain ⟨w, _⟩ := w
      rw [w] at ho; exact absurd ho (by decide)
  refine W.vret hx hb hr (fun t ht hW => ⟨⟨(), rfl, trivial, by rw [ht]; omega, fun d hd => ?_⟩, hS.F ht⟩) hS.2.2 (show decode cX7_init 66 = .ok (.return_, 1) by decide +kernel)
  rw [ht]
  rcases List.mem_cons.mp hd with rfl | hd
  · have h9 := hB.2.1
    rw [fsK_full (cA := cA) hfull] at h9
    exact h9
  · exact (hB.2.2 (d, kcell (adZ z) cA s0 d) (List.mem_map.mpr ⟨d, hd, rfl⟩)).1
set_option maxHeartbeats 4000000 in
set_option maxRecDepth 100000 in
theorem c_rr : CM yX3_init cX3_init 1 22 2 8 536 (ds_3 22) (fun _ => []) := by
  intro l D cA z
  have ho : cls 22 = 3 := rfl
  have h35 : 22 < 35 := by decide
  obtain ⟨hp_f0, hp_f3⟩ := ps_3 22 h35 ho
  refine Met.ofW (cc := cX3_init) (maxL := 1) (ret := none) (by decide) rfl ?_
  intro p e s m args below meth c s₁ B hml hv
  obtain ⟨rfl, hz, he, hK, hex⟩ := hv
  have hx := B.exec
  have hb := B.bytes
  have hr := B.returns
  have hts0 := atoms_spec (ws := .code yX3_init cX3_init 1 none :: gtb) B.pre
  have hown : s.vm.findClass RX3 = some m.cls := findClass_of_methodNamed B.named
  have hlocks := B.notSynchronized
  have hin : meth.name = "<init>" := (name_of_methodNamed B.named B.method).1
  have hts : ∀ w ∈ gtb, w.before _ s = true := fun w h => hts0 w (List.mem_cons_of_mem _ h)
  have hC : CIc p s m _ meth c cX3_init 1 D cA RX3 := ⟨⟨hx, hb, hml, hown, hin⟩, hts, hK⟩
  have hS : va_S (fun q => z + pos (22, 0) ≤ q) s.heap s.heap [] := va_S.rf
  have hB : CB D z (pos (22, 0) + 1) 22 (fun _ => false) (fnL (adZ z) cA []) s.heap := ⟨by omega, he, fun q hq => by cases hq⟩
  have hz : s.heap.size = z + (pos (22, 0) + 1) := by omega
  have hl := lv_entry ([.ref (z + pos (22, 0))]) (n := 1) (Nat.le_of_ble_eq_true rfl)
  rw [lg_entry_eq]
  generalize (lg_sl ([.ref (z + pos (22, 0))]) ++ List.replicate (1 - (lg_sl ([.ref (z + pos (22, 0))])).length) Slot.unset).toArray = ls at hl ⊢
  have hl : lv_has ls 1 [(0, .ref (z + pos (22, 0)))] := hl
  refine lv_aload_n (k := 0) (i := 0) hx hb (show decode cX3_init 0 = .ok (.aload_n 0, 1) by decide +kernel) rfl (lv_at hl 0 rfl) ?_
  refine W.objInit hx hb hown (hts _ (gk_2 50 rfl rfl)) (hts _ (gk_1 26 rfl rfl)) (hts _ (gk_1 27 rfl rfl)) rfl (by rw [hml]; exact hl.1) rfl (show decode cX3_init 1 = .ok (.invokespecial 3, 3) by decide +kernel) (Nat.le_of_ble_eq_true rfl) (Nat.le_of_ble_eq_true rfl) ?_
  refine W.eq (g2 := F0 m 4 ls []) rfl ?_
  -- field 0, from 4
  refine lv_aload_n (k := 0) (i := 0) hx hb (show decode cX3_init 4 = .ok (.aload_n 0, 1) by decide +kernel) rfl (lv_at hl 0 rfl) ?_
  have hpo := hp_f0
  refine st_new hC hS hz (idx := 9) (o' := 23) (ci := 2) (N := 8) (C := RX2) (T := TX2) rfl rfl hpo (gk_2 51 rfl rfl) (gk_2 52 rfl rfl) (gk_1 8 rfl rfl) (Nat.le_of_ble_eq_true rfl) (Nat.le_of_ble_eq_true rfl) (show decode cX3_init 5 = .ok (.new 9, 3) by decide +kernel) (fun H1 he1 hz1 o1 hS1 => ?_)
  refine lv_dup hx hb (show decode cX3_init 8 = .ok (.dup, 1) by decide +kernel) rfl ?_
  refine st_callN hC hS1 hex hz1 (idx := 11) (o' := 23) (As := fun _ => []) (rest := [.ref (z + pos (23, 0)), .ref (z + pos (22, 0))]) (np := 0) hpo (fun q h => by omega) he1 (c_ru (o := 23) rfl) (gk_2 55 rfl rfl) (gk_1 8 rfl rfl) (List.mem_of_getElem? (i := 12) rfl) (gk_2 54 rfl rfl) rfl ⟨by decide, by decide, by decide +kernel⟩ rfl ⟨(Nat.le_of_ble_eq_true rfl), (Nat.le_of_ble_eq_true rfl)⟩ hl.1 (Nat.le_of_ble_eq_true rfl) (Nat.le_of_ble_eq_true rfl) (Nat.le_of_ble_eq_true rfl) (show decode cX3_init 9 = .ok (.invokespecial 11, 3) by decide +kernel) (fun H2 locs2 hds hz2 hF hS2 => ?_)
  have hB1 : CB D z (pos (22, 0) + 8) 22 (fun _ => false) (fnL (adZ z) cA (ds_2 (23) ++ [])) H2 := (hB.grow (pos (22, 0) + 8) (by omega) (fun q hq => (hF q hq).trans (o1 q hq))).addL hds (fun d hd => by have := pd_2 (23) (by decide) rfl d hd; omega)
  refine st_put hC hS2 hB1 (idx := 12) (N := 7) (k := 0) (T := TX3) ho rfl (by decide) (gk_2 82 rfl rfl) (fv_obj (o' := 23) (by rw [ho]; rfl) (by rw [ho]; rfl)) (tyX3_ok 0 (by decide)) rfl rfl (show decode cX3_init 12 = .ok (.putfield 12, 3) by decide +kernel) (fun H3 locs3 hB2 z3 f3 hS3 => ?_)
  have hz2 : H3.size = z + (pos (22, 0) + 8) := by omega
  clear hB hz hS
  have hB := hB2
  have hz := hz2
  have hS := hS3
  clear hB1 hB2 hz1 hz2 hS1 hS2 hS3 he1 o1 hF hds z3 hpo
  -- field 3, from 15
  refine lv_aload_n (k := 0) (i := 0) hx hb (show decode cX3_init 15 = .ok (.aload_n 0, 1) by decide +kernel) rfl (lv_at hl 0 rfl) ?_
  refine lv_bipush (n := 40) (v := 40) hx hb (show decode cX3_init 16 = .ok (.bipush 40, 2) by decide +kernel) (by decide +kernel) ?_
  refine st_na hC hS hB hz (idx := 18) (ci := 3) (N := 7) (k := 3) (T := TX3) (kd := 3) (N' := 40) (t0 := 0) (dv := .int 0) (x := 40) (atype := .int) ho rfl (by decide) rfl (fun w => absurd w.2 (show ¬ 3 = 41 by decide)) (Or.inl ⟨rfl, rfl, rfl, rfl, rfl⟩) hp_f3 (gk_1 47 rfl rfl) (gk_2 86 rfl rfl) (by decide +kernel) (by decide +kernel) (by decide +kernel) (Nat.le_of_ble_eq_true rfl) (Nat.le_of_ble_eq_true rfl) (Nat.le_of_ble_eq_true rfl) (show decode cX3_init 18 = .ok (.newarray .int, 2) by decide +kernel) (show decode cX3_init 20 = .ok (.putfield 18, 3) by decide +kernel) (fun H1 locs1 hB1 hz1 hf1 hS1 => ?_)
  clear hB hz hS hf1
  have hB : CB D z (pos (22, 0) + 9) 22 (addS (addS (fun _ => false) 0) 3) (fnL (adZ z) cA ((22, 4) :: (ds_2 (23) ++ []))) H1 := hB1
  have hz : H1.size = z + (pos (22, 0) + 9) := hz1
  have hS := hS1
  clear hB1 hz1 hS1
  refine W.widen (k := 8) (n := 536) (Nat.le_of_ble_eq_true rfl) (Nat.le_of_ble_eq_true rfl) ?_
  have hfull : ∀ j, j < nF (cls 22) → (addS (addS (fun _ => false) 0) 3) j = true ∨ fieldV (adZ z) s0 22 j = dvF (ftab (cls 22) j).1 := by
    intro j hj
    rw [ho] at hj ⊢
    have hd : ∀ j, j < nF 3 → (addS (addS (fun _ => false) 0) 3) j = true ∨ (ftab 3 j).1 < 3 := by decide +kernel
    by_cases q : (addS (addS (fun _ => false) 0) 3) j = true
    · exact Or.inl q
    · refine Or.inr ?_
      have h3 := (hd j hj).resolve_left q
      rw [← ho] at h3 ⊢
      refine fv_def h3 (if_neg (fun w => ?_))
      obtain ⟨w, _⟩ := w
      exact absurd w (by decide)
  refine W.vret hx hb hr (fun t ht hW => ⟨⟨(), rfl, trivial, by rw [ht]; omega, fun d hd => ?_⟩, hS.F ht⟩) hS.2.2 (show decode cX3_init 23 = .ok (.return_, 1) by decide +kernel)
  rw [ht]
  rcases List.mem_cons.mp hd with rfl | hd
  · have h9 := hB.2.1
    rw [fsK_full (cA := cA) hfull] at h9
    exact h9
  · exact (hB.2.2 (d, kcell (adZ z) cA s0 d) (List.mem_map.mpr ⟨d, hd, rfl⟩)).1
set_option maxHeartbeats 4000000 in
set_option maxRecDepth 100000 in
theorem c_sr : CM yX6_init cX6_init 1 20 2 12 132 (ds_6 20) (fun _ => []) := by
  intro l D cA z
  have ho : cls 20 = 6 := rfl
  have h35 : 20 < 35 := by decide
  obtain ⟨hp_f0, hp_f1, hp_f2⟩ := ps_6 20 h35 ho
  refine Met.ofW (cc := cX6_init) (maxL := 1) (ret := none) (by decide) rfl ?_
  intro p e s m args below meth c s₁ B hml hv
  obtain ⟨rfl, hz, he, hK, hex⟩ := hv
  have hx := B.exec
  have hb := B.bytes
  have hr := B.returns
  have hts0 := atoms_spec (ws := .code yX6_init cX6_init 1 none :: gtb) B.pre
  have hown : s.vm.findClass RX6 = some m.cls := findClass_of_methodNamed B.named
  have hlocks := B.notSynchronized
  have hin : meth.name = "<init>" := (name_of_methodNamed B.named B.method).1
  have hts : ∀ w ∈ gtb, w.before _ s = true := fun w h => hts0 w (List.mem_cons_of_mem _ h)
  have hC : CIc p s m _ meth c cX6_init 1 D cA RX6 := ⟨⟨hx, hb, hml, hown, hin⟩, hts, hK⟩
  have hS : va_S (fun q => z + pos (20, 0) ≤ q) s.heap s.heap [] := va_S.rf
  have hB : CB D z (pos (20, 0) + 1) 20 (fun _ => false) (fnL (adZ z) cA []) s.heap := ⟨by omega, he, fun q hq => by cases hq⟩
  have hz : s.heap.size = z + (pos (20, 0) + 1) := by omega
  have hl := lv_entry ([.ref (z + pos (20, 0))]) (n := 1) (Nat.le_of_ble_eq_true rfl)
  rw [lg_entry_eq]
  generalize (lg_sl ([.ref (z + pos (20, 0))]) ++ List.replicate (1 - (lg_sl ([.ref (z + pos (20, 0))])).length) Slot.unset).toArray = ls at hl ⊢
  have hl : lv_has ls 1 [(0, .ref (z + pos (20, 0)))] := hl
  refine lv_aload_n (k := 0) (i := 0) hx hb (show decode cX6_init 0 = .ok (.aload_n 0, 1) by decide +kernel) rfl (lv_at hl 0 rfl) ?_
  refine W.objInit hx hb hown (hts _ (gk_2 30 rfl rfl)) (hts _ (gk_1 26 rfl rfl)) (hts _ (gk_1 27 rfl rfl)) rfl (by rw [hml]; exact hl.1) rfl (show decode cX6_init 1 = .ok (.invokespecial 3, 3) by decide +kernel) (Nat.le_of_ble_eq_true rfl) (Nat.le_of_ble_eq_true rfl) ?_
  refine W.eq (g2 := F0 m 4 ls []) rfl ?_
  -- field 0, from 4
  refine lv_aload_n (k := 0) (i := 0) hx hb (show decode cX6_init 4 = .ok (.aload_n 0, 1) by decide +kernel) rfl (lv_at hl 0 rfl) ?_
  have hpo := hp_f0
  refine st_new hC hS hz (idx := 9) (o' := 21) (ci := 5) (N := 17) (C := RX5) (T := TX5) rfl rfl hpo (gk_2 31 rfl rfl) (gk_1 55 rfl rfl) (gk_1 4 rfl rfl) (Nat.le_of_ble_eq_true rfl) (Nat.le_of_ble_eq_true rfl) (show decode cX6_init 5 = .ok (.new 9, 3) by decide +kernel) (fun H1 he1 hz1 o1 hS1 => ?_)
  refine lv_dup hx hb (show decode cX6_init 8 = .ok (.dup, 1) by decide +kernel) rfl ?_
  refine st_callN hC hS1 hex hz1 (idx := 11) (o' := 21) (As := fun _ => []) (rest := [.ref (z + pos (21, 0)), .ref (z + pos (20, 0))]) (np := 0) hpo (fun q h => by omega) he1 (c_sh (o := 21) rfl) (gk_1 58 rfl rfl) (gk_1 4 rfl rfl) (List.mem_of_getElem? (i := 11) rfl) (gk_1 57 rfl rfl) rfl ⟨by decide, by decide, by decide +kernel⟩ rfl ⟨(Nat.le_of_ble_eq_true rfl), (Nat.le_of_ble_eq_true rfl)⟩ hl.1 (Nat.le_of_ble_eq_true rfl) (Nat.le_of_ble_eq_true rfl) (Nat.le_of_ble_eq_true rfl) (show decode cX6_init 9 = .ok (.invokespecial 11, 3) by decide +kernel) (fun H2 locs2 hds hz2 hF hS2 => ?_)
  have hB1 : CB D z (pos (20, 0) + 11) 20 (fun _ => false) (fnL (adZ z) cA (ds_5 (21) ++ [])) H2 := (hB.grow (pos (20, 0) + 11) (by omega) (fun q hq => (hF q hq).trans (o1 q hq))).addL hds (fun d hd => by have := pd_5 (21) (by decide) rfl d hd; omega)
  refine st_put hC hS2 hB1 (idx := 12) (N := 3) (k := 0) (T := TX6) ho rfl (by decide) (gk_2 33 rfl rfl) (fv_obj (o' := 21) (by rw [ho]; rfl) (by rw [ho]; rfl)) (tyX6_ok 0 (by decide)) rfl rfl (show decode cX6_init 12 = .ok (.putfield 12, 3) by decide +kernel) (fun H3 locs3 hB2 z3 f3 hS3 => ?_)
  have hz2 : H3.size = z + (pos (20, 0) + 11) := by omega
  clear hB hz hS
  have hB := hB2
  have hz := hz2
  have hS := hS3
  clear hB1 hB2 hz1 hz2 hS1 hS2 hS3 he1 o1 hF hds z3 hpo
  -- field 1, from 15
  refine lv_aload_n (k := 0) (i := 0) hx hb (show decode cX6_init 15 = .ok (.aload_n 0, 1) by decide +kernel) rfl (lv_at hl 0 rfl) ?_
  refine lv_iconst (n := 4) (v := 4) hx hb (show decode cX6_init 16 = .ok (.iconst 4, 1) by decide +kernel) (by decide +kernel) ?_
  refine st_na hC hS hB hz (idx := 18) (ci := 6) (N := 3) (k := 1) (T := TX6) (kd := 3) (N' := 4) (t0 := 0) (dv := .int 0) (x := 4) (atype := .int) ho rfl (by decide) rfl (fun w => absurd w.2 (show ¬ 1 = 41 by decide)) (Or.inl ⟨rfl, rfl, rfl, rfl, rfl⟩) hp_f1 (gk_1 47 rfl rfl) (gk_2 35 rfl rfl) (by decide +kernel) (by decide +kernel) (by decide +kernel) (Nat.le_of_ble_eq_true rfl) (Nat.le_of_ble_eq_true rfl) (Nat.le_of_ble_eq_true rfl) (show decode cX6_init 17 = .ok (.newarray .int, 2) by decide +kernel) (show decode cX6_init 19 = .ok (.putfield 18, 3) by decide +kernel) (fun H1 locs1 hB1 hz1 hf1 hS1 => ?_)
  clear hB hz hS hf1
  have hB : CB D z (pos (20, 0) + 12) 20 (addS (addS (fun _ => false) 0) 1) (fnL (adZ z) cA ((20, 2) :: (ds_5 (21) ++ []))) H1 := hB1
  have hz : H1.size = z + (pos (20, 0) + 12) := hz1
  have hS := hS1
  clear hB1 hz1 hS1
  -- field 2, from 22
  refine lv_aload_n (k := 0) (i := 0) hx hb (show decode cX6_init 22 = .ok (.aload_n 0, 1) by decide +kernel) rfl (lv_at hl 0 rfl) ?_
  refine lv_bipush (n := 7) (v := 7) hx hb (show decode cX6_init 23 = .ok (.bipush 7, 2) by decide +kernel) (by decide +kernel) ?_
  refine st_na hC hS hB hz (idx := 22) (ci := 6) (N := 3) (k := 2) (T := TX6) (kd := 3) (N' := 7) (t0 := 0) (dv := .int 0) (x := 7) (atype := .int) ho rfl (by decide) rfl (fun w => absurd w.2 (show ¬ 2 = 41 by decide)) (Or.inl ⟨rfl, rfl, rfl, rfl, rfl⟩) hp_f2 (gk_1 47 rfl rfl) (gk_2 36 rfl rfl) (by decide +kernel) (by decide +kernel) (by decide +kernel) (Nat.le_of_ble_eq_true rfl) (Nat.le_of_ble_eq_true rfl) (Nat.le_of_ble_eq_true rfl) (show decode cX6_init 25 = .ok (.newarray .int, 2) by decide +kernel) (show decode cX6_init 27 = .ok (.putfield 22, 3) by decide +kernel) (fun H1 locs1 hB1 hz1 hf1 hS1 => ?_)
  clear hB hz hS hf1
  have hB : CB D z (pos (20, 0) + 13) 20 (addS (addS (addS (fun _ => false) 0) 1) 2) (fnL (adZ z) cA ((20, 3) :: ((20, 2) :: (ds_5 (21) ++ [])))) H1 := hB1
  have hz : H1.size = z + (pos (20, 0) + 13) := hz1
  have hS := hS1
  clear hB1 hz1 hS1
  refine W.widen (k := 12) (n := 132) (Nat.le_of_ble_eq_true rfl) (Nat.le_of_ble_eq_true rfl) ?_
  have hfull : ∀ j, j < nF (cls 20) → (addS (addS (addS (fun _ => false) 0) 1) 2) j = true ∨ fieldV (adZ z) s0 20 j = dvF (ftab (cls 20) j).1 := by
    intro j hj
    rw [ho] at hj ⊢
    have hd : ∀ j, j < nF 6 → (addS (addS (addS (fun _ => false) 0) 1) 2) j = true ∨ (ftab 6 j).1 < 3 := by decide +kernel
    by_cases q : (addS (addS (addS (fun _ => false) 0) 1) 2) j = true
    · exact Or.inl q
    · refine Or.inr ?_
      have h3 := (hd j hj).resolve_left q
      rw [← ho] at h3 ⊢
      refine fv_def h3 (if_neg (fun w => ?_))
      obtain ⟨w, _⟩ := w
      exact absurd w (by decide)
  refine W.vret hx hb hr (fun t ht hW => ⟨⟨(), rfl, trivial, by rw [ht]; omega, fun d hd => ?_⟩, hS.F ht⟩) hS.2.2 (show decode cX6_init 30 = .ok (.return_, 1) by decide +kernel)
  rw [ht]
  rcases List.mem_cons.mp hd with rfl | hd
  · have h9 := hB.2.1
    rw [fsK_full (cA := cA) hfull] at h9
    exact h9
  · exact (hB.2.2 (d, kcell (adZ z) cA s0 d) (List.mem_map.mpr ⟨d, hd, rfl⟩)).1
