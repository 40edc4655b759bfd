/-! ===== rows over the world ===== -/
def gtb : List Cond := lw_tbl.filter goodWord
theorem gt_at {w : Cond} (i : Nat) (h : lw_tbl[i]? = some w) (hg : goodWord w = true) : w ∈ gtb := List.mem_filter.mpr ⟨List.mem_of_getElem? h, hg⟩
/-- a class's number: its fields in the tables, their kinds -/
def kindOK (k : Nat × Nat) (d : String) (fin : Bool) : Bool := match k.1 with
  | 0 => d == "I" && !fin
  | 1 => d == "J" && !fin
  | 2 => d == "Z" && !fin
  | _ => true
def CLK (ci : Nat) (C : String) (T : u_T) (N : Nat) : Prop := N = nF ci ∧ (∀ w ∈ u_ws C T N, w ∈ gtb) ∧ (∃ ty0 : Nat → FieldType, ∀ k, k < N → parseFieldDescriptor (T k).2.2.1 = some (ty0 k)) ∧ (∀ a, a < N → ∀ b, b < N → a ≠ b → (T a).2.1 ≠ (T b).2.1) ∧ ∀ k, k < N → (T k).1 = C ∧ kindOK (ftab ci k) (T k).2.2.1 (T k).2.2.2 = true
theorem uws_in {C : String} {T : u_T} {N : Nat} (ps : List Nat) (h : u_ws C T N = ps.filterMap (fun i => lw_tbl[i]?)) (hg : (u_ws C T N).all goodWord = true) : ∀ w ∈ u_ws C T N, w ∈ gtb := by
  intro w hw
  have h1 := List.all_eq_true.mp hg w hw
  rw [h] at hw
  obtain ⟨i, -, hi⟩ := List.mem_filterMap.mp hw
  exact gt_at i hi h1
set_option maxRecDepth 20000 in
theorem CLK_0 : CLK 0 RX0 TX0 3 := ⟨by decide +kernel, uws_in [453, 455, 457] (by decide +kernel) (by decide +kernel), ⟨tyX0, tyX0_ok⟩, nmX0, by decide +kernel⟩
set_option maxRecDepth 20000 in
theorem CLK_1 : CLK 1 RX1 TX1 5 := ⟨by decide +kernel, uws_in [474, 476, 478, 480, 482] (by decide +kernel) (by decide +kernel), ⟨tyX1, tyX1_ok⟩, nmX1, by decide +kernel⟩
set_option maxRecDepth 20000 in
theorem CLK_2 : CLK 2 RX2 TX2 8 := ⟨by decide +kernel, uws_in [404, 406, 408, 410, 412, 414, 416, 418] (by decide +kernel) (by decide +kernel), ⟨tyX2, tyX2_ok⟩, nmX2, by decide +kernel⟩
set_option maxRecDepth 20000 in
theorem CLK_3 : CLK 3 RX3 TX3 7 := ⟨by decide +kernel, uws_in [429, 431, 433, 435, 437, 439, 441] (by decide +kernel) (by decide +kernel), ⟨tyX3, tyX3_ok⟩, nmX3, by decide +kernel⟩
set_option maxRecDepth 20000 in
theorem CLK_4 : CLK 4 RX4 TX4 4 := ⟨by decide +kernel, uws_in [534, 536, 538, 540] (by decide +kernel) (by decide +kernel), ⟨tyX4, tyX4_ok⟩, nmX4, by decide +kernel⟩
set_option maxRecDepth 20000 in
theorem CLK_5 : CLK 5 RX5 TX5 17 := ⟨by decide +kernel, uws_in [219, 221, 223, 225, 227, 229, 231, 233, 235, 237, 239, 241, 243, 245, 247, 249, 251] (by decide +kernel) (by decide +kernel), ⟨tyX5, tyX5_ok⟩, nmX5, by decide +kernel⟩
set_option maxRecDepth 20000 in
theorem CLK_6 : CLK 6 RX6 TX6 3 := ⟨by decide +kernel, uws_in [376, 378, 380] (by decide +kernel) (by decide +kernel), ⟨tyX6, tyX6_ok⟩, nmX6, by decide +kernel⟩
set_option maxRecDepth 20000 in
theorem CLK_7 : CLK 7 RX7 TX7 14 := ⟨by decide +kernel, uws_in [331, 333, 335, 337, 339, 341, 343, 345, 347, 349, 351, 353, 355, 357] (by decide +kernel) (by decide +kernel), ⟨tyX7, tyX7_ok⟩, nmX7, by decide +kernel⟩
set_option maxRecDepth 20000 in
theorem CLK_8 : CLK 8 RX8 TX8 3 := ⟨by decide +kernel, uws_in [139, 141, 143] (by decide +kernel) (by decide +kernel), ⟨tyX8, tyX8_ok⟩, nmX8, by decide +kernel⟩
set_option maxRecDepth 20000 in
theorem CLK_9 : CLK 9 RX9 TX9 8 := ⟨by decide +kernel, uws_in [282, 284, 286, 288, 290, 292, 294, 296] (by decide +kernel) (by decide +kernel), ⟨tyX9, tyX9_ok⟩, nmX9, by decide +kernel⟩
set_option maxRecDepth 20000 in
theorem CLK_10 : CLK 10 RX10 TX10 9 := ⟨by decide +kernel, uws_in [503, 505, 507, 509, 511, 513, 515, 517, 519] (by decide +kernel) (by decide +kernel), ⟨tyX10, tyX10_ok⟩, nmX10, by decide +kernel⟩
set_option maxRecDepth 20000 in
theorem CLK_11 : CLK 11 RX11 TX11 14 := ⟨by decide +kernel, uws_in [558, 560, 562, 564, 566, 568, 570, 572, 574, 576, 578, 580, 582, 584] (by decide +kernel) (by decide +kernel), ⟨tyX11, tyX11_ok⟩, nmX11, by decide +kernel⟩
set_option maxRecDepth 20000 in
theorem CLK_12 : CLK 12 RX12 TX12 71 := ⟨by decide +kernel, uws_in [1287, 1289, 1291, 1293, 1295, 1297, 1299, 1301, 1303, 1305, 1307, 1309, 1311, 1313, 1315, 1317, 1319, 1321, 1323, 1325, 1327, 1329, 1331, 1333, 1335, 1337, 1339, 1341, 1343, 1345, 1347, 1349, 1351, 1353, 1355, 1357, 1359, 1361, 1363, 1365, 1367, 1369, 1371, 1373, 1375, 1377, 1379, 1381, 1383, 1385, 1387, 1389, 1391, 1393, 1395, 1397, 1399, 1401, 1403, 1405, 1407, 1409, 1411, 1413, 1415, 1417, 1419, 1421, 1423, 1425, 1427] (by decide +kernel) (by decide +kernel), ⟨tyX12, tyX12_ok⟩, nmX12, by decide +kernel⟩
theorem CLK_ok : ∀ (ci : Nat) (C : String) (T : u_T) (N : Nat), vwCl[ci]? = some (C, T, N) → CLK ci C T N := by
  intro ci C T N h
  match ci, h with
  | 0, h => cases h; exact CLK_0
  | 1, h => cases h; exact CLK_1
  | 2, h => cases h; exact CLK_2
  | 3, h => cases h; exact CLK_3
  | 4, h => cases h; exact CLK_4
  | 5, h => cases h; exact CLK_5
  | 6, h => cases h; exact CLK_6
  | 7, h => cases h; exact CLK_7
  | 8, h => cases h; exact CLK_8
  | 9, h => cases h; exact CLK_9
  | 10, h => cases h; exact CLK_10
  | 11, h => cases h; exact CLK_11
  | 12, h => cases h; exact CLK_12
  | n + 13, h => simp [vwCl] at h
def strL : List (String × (Nat × (String × Nat))) := [("ClothEnds$ShopReader", 55, "bale flaw thumb askew board form pair", 10), ("ClothEnds$RuleReader", 52, "from give", 12), ("ClothEnds$RuleReader", 72, "if", 20), ("ClothEnds$RuleReader", 108, "and or", 18), ("ClothEnds$RuleReader", 120, "not", 14), ("ClothEnds$RuleReader", 134, "left order rest flaws width lot stripe bale day", 16), ("ClothEndsModel", 200, "left", 40), ("ClothEndsModel", 201, "order", 42), ("ClothEndsModel", 203, "rest", 44), ("ClothEndsModel", 205, "flaws", 46), ("ClothEndsModel", 207, "width", 48), ("ClothEndsModel", 208, "lot", 50), ("ClothEndsModel", 209, "stripe", 52), ("ClothEndsModel", 210, "bale", 22), ("ClothEndsModel", 212, "day", 54), ("ClothEndsModel", 214, "flaw", 24), ("ClothEndsModel", 216, "thumb", 26), ("ClothEndsModel", 218, "askew", 28), ("ClothEndsModel", 220, "board", 30), ("ClothEndsModel", 222, "form", 32), ("ClothEndsModel", 224, "pair", 34), ("ClothEndsModel", 306, "not", 14), ("ClothEndsModel", 320, "and", 56), ("ClothEndsModel", 322, "or", 58), ("ClothEndsModel", 357, "give", 36), ("ClothEndsModel", 359, "from", 38), ("ClothEndsModel", 361, "if", 20)]
def FOK (own : String) (e : Nat × (Nat × Nat)) : Prop := ∃ (C : String) (T : u_T) (N : Nat), vwCl[e.2.1]? = some (C, T, N) ∧ e.2.2 < N ∧ Cond.fieldLink own e.1 C (T e.2.2).2.1 (T e.2.2).2.2.1 ∈ gtb
def statL : List (String × (String × (String × Vl))) := [("ClothEnds$ShopReader", "MOST_TOLD", "[I", vC 1), ("ClothEnds$ShopReader", "NUMBERS", "[I", vC 2), ("ClothEnds$ShopReader", "LEAST", "[I", vC 3), ("ClothEnds$ShopReader", "MOST", "[I", vC 4), ("java/lang/String", "COMPACT_STRINGS", "Z", vI 1), ("jdk/internal/util/Preconditions", "SIOOBE_FORMATTER", "Ljava/util/function/BiFunction;", vC 5)]
def KC (ad : Nat × Nat → Nat) (kd : Nat → Value) (z : Nat) (U : State) (H : Heap) : Prop :=
  ((∀ q, kd q = .null ∨ ∃ a, kd q = .ref a) ∧ ∀ q, ¬ q = 5 → ∃ a, kd q = .ref a) ∧
  (∀ q, ckind q = 3 → ∃ t, kd q = .ref t ∧ va_T .int t (clen q) (fun j => .int (iI (cval q (j : Int)))) (fun q => z ≤ q) U H) ∧
  (∀ q, ckind q = 6 → ∃ t, kd q = .ref t ∧ va_T .byte t (clen q) (fun j => .int (iI (cval q (j : Int)))) (fun q => z ≤ q) U H) ∧
  (∀ q, ckind q = 20 → ∃ t, kd q = .ref t ∧ va_O "java/lang/String" t (fun q => z ≤ q) U H ∧ va_OF "java/lang/String" "coder" "B" (.int 0) t (fun q => z ≤ q) U H ∧ va_OF "java/lang/String" "value" "[B" (kd (q + 1)) t (fun q => z ≤ q) U H) ∧
  (∀ e ∈ statL, va_Z e.1 e.2.1 e.2.2.1 (vv ad kd e.2.2.2) (fun q => z ≤ q) U H) ∧
  (∀ e ∈ strL, ∃ t, kd e.2.2.2 = .ref t ∧ vk_R e.1 e.2.1 e.2.2.1 t U)
theorem KC.moved {ad : Nat × Nat → Nat} {kd : Nat → Value} {z : Nat} {s U : State} {H H1 : Heap} (hW : s.WarmedH U.vm) (hq : ∀ q : Nat, q < H.size → ¬ z ≤ q → H1[q]? = H[q]?) (h : KC ad kd z s H) : KC ad kd z U H1 := by
  have hvm : s.vm.Alike U.vm := hW.alike
  obtain ⟨h1, h2, h3, h4, h5, h6⟩ := h
  refine ⟨h1, fun q hk => ?_, fun q hk => ?_, fun q hk => ?_, fun e he => ((h5 e he).moved hvm).kept hq, fun e he => ?_⟩
  · obtain ⟨t, a, b⟩ := h2 q hk
    exact ⟨t, a, (b.moved hvm).kept hq⟩
  · obtain ⟨t, a, b⟩ := h3 q hk
    exact ⟨t, a, (b.moved hvm).kept hq⟩
  · obtain ⟨t, a, b, c, d⟩ := h4 q hk
    exact ⟨t, a, (b.moved hvm).kept hq, (c.moved hvm).kept hq, (d.moved hvm).kept hq⟩
  · obtain ⟨t, a, b⟩ := h6 e he
    exact ⟨t, a, b.warm hW⟩
section RW
variable {p : Program} {l : Launch} {e : Env} {R : Room} {s : State} {m : MethodId} {args : Array Value} {below : List Frame} {meth : Method} {c : Code} {H : Heap} {locs : List Loc} {cells slots : Nat} {Q : State → Prop}
variable {cc : ByteArray} {pc : Nat} {ls : Array Slot} {rest : List Value} {D : va_G} {ad : Nat × Nat → Nat} {cA : Nat → ClassId} {kd : Nat → Value} {z : Nat} {σ : Mem} {own : String}
theorem vwCl_lt {ci : Nat} {q : vw_C} (h : vwCl[ci]? = some q) : ci < 13 := (List.getElem?_eq_some_iff.mp h).1
theorem r_get (hx : p.tables.exec = Jvm.exec) (hb : c.code = cc) (hts : ∀ w ∈ gtb, w.before args s = true) (hown : s.vm.findClass own = some m.cls) (hK : va_K D vwCl (tysG cA) s) (hP : va_P D vwCl (wlst ad cA σ) H) {n : Nat} {f : Nat × Nat} (hF : FOK own (n, f)) {o : Nat} (hc : cls o = f.1) (hdg : decode cc pc = .ok (.getfield n, 3))
    (kk : W p l e R s m args below meth c H locs cells slots Q (F0 m (pc + 3) ls (vv ad kd (fvl f.1 f.2 o σ) :: rest))) : W p l e R s m args below meth c H locs cells slots Q (F0 m pc ls (.ref (ad (o, 0)) :: rest)) := by
  obtain ⟨ci, j⟩ := f
  subst hc
  obtain ⟨C, T, N, h1, h2, h3⟩ := hF
  obtain ⟨g1, g2, -, -, g5⟩ := CLK_ok _ _ _ _ h1
  have hlt : cls o < 13 := vwCl_lt h1
  dsimp only at g1 h2 h3
  have hj : j < nF (cls o) := by rw [← g1]; exact h2
  obtain ⟨q0, -, hq⟩ := wl_at ad cA σ (dom_obj o (cls_lt rfl (Nat.lt_trans hlt (by decide))))
  refine va_get (D := D) (ci := cls o) (v := fieldV ad σ o j) (C := C) (T := T) (N := N) (ref := C) hx hb hts g2 hown hK hP q0 hq h1 j h2 (hts _ h3) (fun x h => by rw [← (g5 j h2).1]; exact h) ?_ hdg (by rw [vv_fvl ad kd σ rfl] at kk; exact kk)
  rw [List.getElem?_map, List.getElem?_range hj]
  rfl
theorem r_put (hx : p.tables.exec = Jvm.exec) (hb : c.code = cc) (hts : ∀ w ∈ gtb, w.before args s = true) (hown : s.vm.findClass own = some m.cls) (hK : va_K D vwCl (tysG cA) s) (hD : ∀ τ, va_D (fun q => z ≤ q) (wlst ad cA τ)) (hP : va_P D vwCl (wlst ad cA σ) H) (hS : va_S (fun q => z ≤ q) s.heap H locs) {n : Nat} {f : Nat × Nat} (hF : FOK own (n, f)) {o : Nat} (hc : cls o = f.1) {x : Int} {ty : FieldType} {v : Value} (hk3 : (ftab f.1 f.2).1 < 3) (hv : fieldV ad (updM σ o f.2 0 x) o f.2 = v) (hty : ∀ d fin, kindOK (ftab f.1 f.2) d fin = true → parseFieldDescriptor d = some ty ∧ fin = false) (hn : narrow ty v = v) (hfit : fits ty v = true) (hdg : decode cc pc = .ok (.putfield n, 3))
    (kk : ∀ (H1 : Heap) (locs1 : List Loc), va_P D vwCl (wlst ad cA (updM σ o f.2 0 x)) H1 → va_S (fun q => z ≤ q) s.heap H1 locs1 → W p l e R s m args below meth c H1 locs1 cells slots Q (F0 m (pc + 3) ls rest)) : W p l e R s m args below meth c H locs cells slots Q (F0 m pc ls (v :: .ref (ad (o, 0)) :: rest)) := by
  obtain ⟨ci, j⟩ := f
  subst hc
  obtain ⟨C, T, N, h1, h2, h3⟩ := hF
  obtain ⟨g1, g2, ⟨ty0, g3⟩, g4, g5⟩ := CLK_ok _ _ _ _ h1
  have hlt : cls o < 13 := vwCl_lt h1
  dsimp only at g1 h2 h3 hk3 hv hty kk
  have hj : j < nF (cls o) := by rw [← g1]; exact h2
  obtain ⟨q0, hd, hq⟩ := wl_at ad cA σ (dom_obj o (cls_lt rfl (Nat.lt_trans hlt (by decide))))
  obtain ⟨t1, t2⟩ := hty _ _ (g5 j h2).2
  refine va_put (D := D) (ci := cls o) (v := v) (ty := ty) (C := C) (T := T) (N := N) (ref := C) hx hb hts g2 ty0 g3 g4 hown hK hP (hD σ) hS q0 hq h1 j h2 (hts _ h3) (fun x h => by rw [← (g5 j h2).1]; exact h) t2 t1 hn hfit (by rw [List.length_map, List.length_range]; exact hj) hdg (fun H1 locs1 a1 _ a3 => kk H1 locs1 ?_ a3)
  have e1 := wl_set ad cA σ (updM σ o j 0 x) hd (kcell_obj ad cA σ hk3)
  rw [← e1]
  have e2 : kcell ad cA (updM σ o j 0 x) (o, 0) = .inr (cls o, ((List.range (nF (cls o))).map (fieldV ad σ o)).set j v) := by
    rw [← hv, ← fields_set ad σ hj]
    rfl
  rw [e2]
  exact a1
theorem tysG_at (cA : Nat → ClassId) : (tysG cA)[0]? = some (cA 0, .int) ∧ (tysG cA)[1]? = some (cA 1, .long) ∧ (tysG cA)[2]? = some (cA 2, .boolean) ∧ (tysG cA)[3]? = some (cA 3, .byte) ∧ (tysG cA)[4]? = some (cA 4, .object "ClothEnds$Stand") ∧ (tysG cA)[5]? = some (cA 5, .object "ClothEnds$Rule") := ⟨rfl, rfl, rfl, rfl, rfl, rfl⟩
theorem arr_at (ad : Nat × Nat → Nat) (cA : Nat → ClassId) (σ : Mem) {kd0 n o j : Nat} (h : arrK kd0 n o j) (hk : 3 ≤ kd0 ∧ kd0 ≤ 8) : ∃ q0 : Nat, domL[q0]? = some (o, j + 1) ∧ (wlst ad cA σ)[q0]? = some (ad (o, j + 1), arrE ad cA σ o j (kd0, n)) := by
  unfold arrK at h
  obtain ⟨q0, a, b⟩ := wl_at ad cA σ (dom_arr (o := o) (j := j) (by rw [h]; unfold isArr; simp only [Bool.and_eq_true, decide_eq_true_eq]; exact hk))
  refine ⟨q0, a, b.trans ?_⟩
  show some (ad (o, j + 1), arrE ad cA σ o j (ftab (cls o) j)) = _
  rw [h]
theorem r_iald (hx : p.tables.exec = Jvm.exec) (hb : c.code = cc) (hK : va_K D vwCl (tysG cA) s) (hP : va_P D vwCl (wlst ad cA σ) H) {n o j : Nat} {i : Int} (ha : arrK 3 n o j) (hi : 0 ≤ wr i ∧ wr i < n) (hdg : decode cc pc = .ok (.iaload, 1))
    (kk : W p l e R s m args below meth c H locs cells slots Q (F0 m (pc + 1) ls (.int (iI (σ o j (wr i))) :: rest))) : W p l e R s m args below meth c H locs cells slots Q (F0 m pc ls (.int (iI i) :: .ref (ad (o, j + 1)) :: rest)) := by
  obtain ⟨q0, -, hq⟩ := arr_at ad cA σ ha (by omega)
  rw [← ix_at hi.1] at kk
  exact va_iald hx hb hK hP q0 0 (f := fun i => iI (σ o j (i : Int))) hq (tysG_at cA).1 (ix_in hi) hdg kk
theorem r_lald (hx : p.tables.exec = Jvm.exec) (hb : c.code = cc) (hK : va_K D vwCl (tysG cA) s) (hP : va_P D vwCl (wlst ad cA σ) H) {n o j : Nat} {i : Int} (ha : arrK 4 n o j) (hi : 0 ≤ wr i ∧ wr i < n) (hdg : decode cc pc = .ok (.laload, 1))
    (kk : W p l e R s m args below meth c H locs cells slots Q (F0 m (pc + 1) ls (.long (lI (σ o j (wr i))) :: rest))) : W p l e R s m args below meth c H locs cells slots Q (F0 m pc ls (.int (iI i) :: .ref (ad (o, j + 1)) :: rest)) := by
  obtain ⟨q0, -, hq⟩ := arr_at ad cA σ ha (by omega)
  rw [← ix_at hi.1] at kk
  exact va_lald hx hb hK hP q0 1 (f := fun i => lI (σ o j (i : Int))) hq (tysG_at cA).2.1 (ix_in hi) hdg kk
theorem r_bald (hx : p.tables.exec = Jvm.exec) (hb : c.code = cc) (hK : va_K D vwCl (tysG cA) s) (hP : va_P D vwCl (wlst ad cA σ) H) {kd0 n o j : Nat} {i : Int} (hk : kd0 = 5 ∨ kd0 = 6) (ha : arrK kd0 n o j) (hi : 0 ≤ wr i ∧ wr i < n) (hdg : decode cc pc = .ok (.baload, 1))
    (kk : W p l e R s m args below meth c H locs cells slots Q (F0 m (pc + 1) ls (.int (iI (σ o j (wr i))) :: rest))) : W p l e R s m args below meth c H locs cells slots Q (F0 m pc ls (.int (iI i) :: .ref (ad (o, j + 1)) :: rest)) := by
  obtain ⟨q0, -, hq⟩ := arr_at ad cA σ ha (by omega)
  rw [← ix_at hi.1] at kk
  rcases hk with rfl | rfl
  · exact va_zald hx hb hK hP q0 2 (f := fun i => iI (σ o j (i : Int))) hq (tysG_at cA).2.2.1 (ix_in hi) hdg kk
  · exact va_bald hx hb hK hP q0 3 (f := fun i => iI (σ o j (i : Int))) hq (tysG_at cA).2.2.2.1 (ix_in hi) hdg kk
theorem r_aald (hx : p.tables.exec = Jvm.exec) (hb : c.code = cc) (hK : va_K D vwCl (tysG cA) s) (hP : va_P D vwCl (wlst ad cA σ) H) {kd0 n o j : Nat} {i : Int} (hk : kd0 = 7 ∨ kd0 = 8) (ha : arrK kd0 n o j) (hi : 0 ≤ wr i ∧ wr i < n) (hdg : decode cc pc = .ok (.aaload, 1))
    (kk : W p l e R s m args below meth c H locs cells slots Q (F0 m (pc + 1) ls (.ref (ad (eltC j (wr i), 0)) :: rest))) : W p l e R s m args below meth c H locs cells slots Q (F0 m pc ls (.int (iI i) :: .ref (ad (o, j + 1)) :: rest)) := by
  obtain ⟨q0, -, hq⟩ := arr_at ad cA σ ha (by omega)
  rw [← ix_at hi.1] at kk
  rcases hk with rfl | rfl
  · exact va_aldq hx hb hK hP q0 4 (f := fun i => some (ad (eltC j (i : Int), 0))) hq (tysG_at cA).2.2.2.2.1 (ix_in hi) hdg kk
  · exact va_aldq hx hb hK hP q0 5 (f := fun i => some (ad (eltC j (i : Int), 0))) hq (tysG_at cA).2.2.2.2.2 (ix_in hi) hdg kk
theorem r_iast (hx : p.tables.exec = Jvm.exec) (hb : c.code = cc) (hK : va_K D vwCl (tysG cA) s) (hD : ∀ τ, va_D (fun q => z ≤ q) (wlst ad cA τ)) (hP : va_P D vwCl (wlst ad cA σ) H) (hS : va_S (fun q => z ≤ q) s.heap H locs) {n o j : Nat} {i x : Int} (ha : arrK 3 n o j) (hi : 0 ≤ wr i ∧ wr i < n) (hdg : decode cc pc = .ok (.iastore, 1))
    (kk : ∀ (H1 : Heap) (locs1 : List Loc), va_P D vwCl (wlst ad cA (updM σ o j (wr i) x)) H1 → va_S (fun q => z ≤ q) s.heap H1 locs1 → W p l e R s m args below meth c H1 locs1 cells slots Q (F0 m (pc + 1) ls rest)) : W p l e R s m args below meth c H locs cells slots Q (F0 m pc ls (.int (iI x) :: .int (iI i) :: .ref (ad (o, j + 1)) :: rest)) := by
  obtain ⟨q0, hd, hq⟩ := arr_at ad cA σ ha (by omega)
  refine va_iast hx hb hK hP (hD σ) hS q0 0 (f := fun i => iI (σ o j (i : Int))) hq (tysG_at cA).1 (ix_in hi) hdg (fun H1 locs1 a1 _ a3 => kk H1 locs1 ?_ a3)
  rw [← wl_set ad cA σ (updM σ o j (wr i) x) hd (kcell_arr ad cA σ (by rw [show ftab (cls o) j = (3, n) from ha]; rfl))]
  have e2 : kcell ad cA (updM σ o j (wr i) x) (o, j + 1) = .inl (cA 0, n, .inl (upd (fun i => iI (σ o j (i : Int))) (iI i).toNatClampNeg (iI x))) := by
    rw [upd_iI σ hi.1]
    show arrE ad cA _ o j (ftab (cls o) j) = _
    rw [show ftab (cls o) j = (3, n) from ha]
    rfl
  rw [e2]
  exact a1
theorem r_last (hx : p.tables.exec = Jvm.exec) (hb : c.code = cc) (hK : va_K D vwCl (tysG cA) s) (hD : ∀ τ, va_D (fun q => z ≤ q) (wlst ad cA τ)) (hP : va_P D vwCl (wlst ad cA σ) H) (hS : va_S (fun q => z ≤ q) s.heap H locs) {n o j : Nat} {i x : Int} (ha : arrK 4 n o j) (hi : 0 ≤ wr i ∧ wr i < n) (hdg : decode cc pc = .ok (.lastore, 1))
    (kk : ∀ (H1 : Heap) (locs1 : List Loc), va_P D vwCl (wlst ad cA (updM σ o j (wr i) x)) H1 → va_S (fun q => z ≤ q) s.heap H1 locs1 → W p l e R s m args below meth c H1 locs1 cells slots Q (F0 m (pc + 1) ls rest)) : W p l e R s m args below meth c H locs cells slots Q (F0 m pc ls (.long (lI x) :: .int (iI i) :: .ref (ad (o, j + 1)) :: rest)) := by
  obtain ⟨q0, hd, hq⟩ := arr_at ad cA σ ha (by omega)
  refine va_last hx hb hK hP (hD σ) hS q0 1 (f := fun i => lI (σ o j (i : Int))) hq (tysG_at cA).2.1 (ix_in hi) hdg (fun H1 locs1 a1 _ a3 => kk H1 locs1 ?_ a3)
  rw [← wl_set ad cA σ (updM σ o j (wr i) x) hd (kcell_arr ad cA σ (by rw [show ftab (cls o) j = (4, n) from ha]; rfl))]
  have e2 : kcell ad cA (updM σ o j (wr i) x) (o, j + 1) = .inl (cA 1, n, .inr (.inl (vp_updL (fun i => lI (σ o j (i : Int))) (iI i).toNatClampNeg (lI x)))) := by
    rw [upd_lI σ hi.1]
    show arrE ad cA _ o j (ftab (cls o) j) = _
    rw [show ftab (cls o) j = (4, n) from ha]
    rfl
  rw [e2]
  exact a1
theorem r_bast (hx : p.tables.exec = Jvm.exec) (hb : c.code = cc) (hK : va_K D vwCl (tysG cA) s) (hD : ∀ τ, va_D (fun q => z ≤ q) (wlst ad cA τ)) (hP : va_P D vwCl (wlst ad cA σ) H) (hS : va_S (fun q => z ≤ q) s.heap H locs) {kd0 n o j : Nat} {i x : Int} (hk : (kd0 = 5 ∧ (x = 0 ∨ x = 1)) ∨ (kd0 = 6 ∧ -128 ≤ x ∧ x ≤ 127)) (ha : arrK kd0 n o j) (hi : 0 ≤ wr i ∧ wr i < n) (hdg : decode cc pc = .ok (.bastore, 1))
    (kk : ∀ (H1 : Heap) (locs1 : List Loc), va_P D vwCl (wlst ad cA (updM σ o j (wr i) x)) H1 → va_S (fun q => z ≤ q) s.heap H1 locs1 → W p l e R s m args below meth c H1 locs1 cells slots Q (F0 m (pc + 1) ls rest)) : W p l e R s m args below meth c H locs cells slots Q (F0 m pc ls (.int (iI x) :: .int (iI i) :: .ref (ad (o, j + 1)) :: rest)) := by
  obtain ⟨q0, hd, hq⟩ := arr_at ad cA σ ha (by omega)
  rcases hk with ⟨rfl, hx1⟩ | ⟨rfl, hx1⟩
  · refine va_zast hx hb hK hP (hD σ) hS q0 2 (f := fun i => iI (σ o j (i : Int))) hq (tysG_at cA).2.2.1 (ix_in hi) hdg (fun H1 locs1 a1 _ a3 => kk H1 locs1 ?_ a3)
    rw [vp_Z hx1] at a1
    rw [← wl_set ad cA σ (updM σ o j (wr i) x) hd (kcell_arr ad cA σ (by rw [show ftab (cls o) j = (5, n) from ha]; rfl))]
    have e2 : kcell ad cA (updM σ o j (wr i) x) (o, j + 1) = .inl (cA 2, n, .inl (upd (fun i => iI (σ o j (i : Int))) (iI i).toNatClampNeg (iI x))) := by
      rw [upd_iI σ hi.1]
      show arrE ad cA _ o j (ftab (cls o) j) = _
      rw [show ftab (cls o) j = (5, n) from ha]
      rfl
    rw [e2]
    exact a1
  · refine va_bast hx hb hK hP (hD σ) hS q0 3 (f := fun i => iI (σ o j (i : Int))) hq (tysG_at cA).2.2.2.1 (ix_in hi) hdg (fun H1 locs1 a1 _ a3 => kk H1 locs1 ?_ a3)
    rw [vp_B hx1] at a1
    rw [← wl_set ad cA σ (updM σ o j (wr i) x) hd (kcell_arr ad cA σ (by rw [show ftab (cls o) j = (6, n) from ha]; rfl))]
    have e2 : kcell ad cA (updM σ o j (wr i) x) (o, j + 1) = .inl (cA 3, n, .inl (upd (fun i => iI (σ o j (i : Int))) (iI i).toNatClampNeg (iI x))) := by
      rw [upd_iI σ hi.1]
      show arrE ad cA _ o j (ftab (cls o) j) = _
      rw [show ftab (cls o) j = (6, n) from ha]
      rfl
    rw [e2]
    exact a1
theorem r_bastZ (hx : p.tables.exec = Jvm.exec) (hb : c.code = cc) (hK : va_K D vwCl (tysG cA) s) (hD : ∀ τ, va_D (fun q => z ≤ q) (wlst ad cA τ)) (hP : va_P D vwCl (wlst ad cA σ) H) (hS : va_S (fun q => z ≤ q) s.heap H locs) {n o j : Nat} {i x : Int} (ha : arrK 5 n o j) (hi : 0 ≤ wr i ∧ wr i < n) (hdg : decode cc pc = .ok (.bastore, 1))
    (kk : ∀ y : Int, (y = 0 ∨ y = 1) → ((x = 0 ∨ x = 1) → y = x) → ∀ (H1 : Heap) (locs1 : List Loc), va_P D vwCl (wlst ad cA (updM σ o j (wr i) y)) H1 → va_S (fun q => z ≤ q) s.heap H1 locs1 → W p l e R s m args below meth c H1 locs1 cells slots Q (F0 m (pc + 1) ls rest)) : W p l e R s m args below meth c H locs cells slots Q (F0 m pc ls (.int (iI x) :: .int (iI i) :: .ref (ad (o, j + 1)) :: rest)) := by
  obtain ⟨q0, hd, hq⟩ := arr_at ad cA σ ha (by omega)
  obtain ⟨y, hy1, hy2, hy3⟩ := nar_any x
  refine va_zast hx hb hK hP (hD σ) hS q0 2 (f := fun i => iI (σ o j (i : Int))) hq (tysG_at cA).2.2.1 (ix_in hi) hdg (fun H1 locs1 a1 _ a3 => kk y hy1 hy2 H1 locs1 ?_ a3)
  rw [hy3] at a1
  rw [← wl_set ad cA σ (updM σ o j (wr i) y) hd (kcell_arr ad cA σ (by rw [show ftab (cls o) j = (5, n) from ha]; rfl))]
  have e2 : kcell ad cA (updM σ o j (wr i) y) (o, j + 1) = .inl (cA 2, n, .inl (upd (fun i => iI (σ o j (i : Int))) (iI i).toNatClampNeg (iI y))) := by
    rw [upd_iI σ hi.1]
    show arrE ad cA _ o j (ftab (cls o) j) = _
    rw [show ftab (cls o) j = (5, n) from ha]
    rfl
  rw [e2]
  exact a1
theorem r_alen (hx : p.tables.exec = Jvm.exec) (hb : c.code = cc) (hK : va_K D vwCl (tysG cA) s) (hP : va_P D vwCl (wlst ad cA σ) H) {kd0 n o j : Nat} (hk : 3 ≤ kd0 ∧ kd0 ≤ 8) (ha : arrK kd0 n o j) (hdg : decode cc pc = .ok (.arraylength, 1))
    (kk : W p l e R s m args below meth c H locs cells slots Q (F0 m (pc + 1) ls (.int (iI n) :: rest))) : W p l e R s m args below meth c H locs cells slots Q (F0 m pc ls (.ref (ad (o, j + 1)) :: rest)) := by
  obtain ⟨q0, -, hq⟩ := arr_at ad cA σ ha hk
  have hv : Int32.ofNat n = iI n := (Int32.ofInt_eq_ofNat (n := n)).symm
  obtain ⟨t0, t1, t2, t3, t4, t5⟩ := tysG_at cA
  have h3 : kd0 = 3 ∨ kd0 = 4 ∨ kd0 = 5 ∨ kd0 = 6 ∨ kd0 = 7 ∨ kd0 = 8 := by omega
  rcases h3 with rfl | rfl | rfl | rfl | rfl | rfl
  · exact va_alen hx hb hK hP q0 0 (x := (n, .inl _)) hq t0 hv hdg kk
  · exact va_alen hx hb hK hP q0 1 (x := (n, .inr (.inl _))) hq t1 hv hdg kk
  · exact va_alen hx hb hK hP q0 2 (x := (n, .inl _)) hq t2 hv hdg kk
  · exact va_alen hx hb hK hP q0 3 (x := (n, .inl _)) hq t3 hv hdg kk
  · exact va_alen hx hb hK hP q0 4 (x := (n, .inr (.inr (.inr (.inr _))))) hq t4 hv hdg kk
  · exact va_alen hx hb hK hP q0 5 (x := (n, .inr (.inr (.inr (.inr _))))) hq t5 hv hdg kk
end RW
