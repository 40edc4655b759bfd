/-! ===== the world as a list of cells, by the store ===== -/
def isArr (k : Nat) : Bool := 3 ≤ k && k ≤ 8
def nF (ci : Nat) : Nat := (ftL.getD ci []).length
def domL : List (Nat × Nat) := (List.range clsL.length).flatMap (fun o => (o, 0) :: ((List.range (nF (cls o))).filter (fun j => isArr (ftab (cls o) j).1)).map (fun j => (o, j + 1)))
def vv (ad : Nat × Nat → Nat) (kd : Nat → Value) : Vl → Value
  | .inl x => .int (iI x)
  | .inr (.inl x) => .long (lI x)
  | .inr (.inr (.inl none)) => .null
  | .inr (.inr (.inl (some d))) => .ref (ad d)
  | .inr (.inr (.inr k)) => kd k
def fieldV (ad : Nat × Nat → Nat) (σ : Mem) (o j : Nat) : Value := match (ftab (cls o) j).1 with
  | 0 => .int (iI (σ o j 0))
  | 1 => .long (lI (σ o j 0))
  | 2 => .int (iI (σ o j 0))
  | 9 => .ref (ad (subC (cls o) j o, 0))
  | _ => .ref (ad (o, j + 1))
def arrE (ad : Nat × Nat → Nat) (cA : Nat → ClassId) (σ : Mem) (o j : Nat) (kn : Nat × Nat) : va_E := match kn.1 with
  | 3 => .inl (cA 0, kn.2, .inl (fun i => iI (σ o j (i : Int))))
  | 4 => .inl (cA 1, kn.2, .inr (.inl (fun i => lI (σ o j (i : Int)))))
  | 5 => .inl (cA 2, kn.2, .inl (fun i => iI (σ o j (i : Int))))
  | 6 => .inl (cA 3, kn.2, .inl (fun i => iI (σ o j (i : Int))))
  | 7 => .inl (cA 4, kn.2, .inr (.inr (.inr (.inr (fun i => some (ad (eltC j (i : Int), 0)))))))
  | _ => .inl (cA 5, kn.2, .inr (.inr (.inr (.inr (fun i => some (ad (eltC j (i : Int), 0)))))))
def kcell (ad : Nat × Nat → Nat) (cA : Nat → ClassId) (σ : Mem) (d : Nat × Nat) : va_E := match d.2 with
  | 0 => .inr (cls d.1, (List.range (nF (cls d.1))).map (fieldV ad σ d.1))
  | j + 1 => arrE ad cA σ d.1 j (ftab (cls d.1) j)
def wlst (ad : Nat × Nat → Nat) (cA : Nat → ClassId) (σ : Mem) : va_W := domL.map (fun d => (ad d, kcell ad cA σ d))
def tysG (cA : Nat → ClassId) : List (ClassId × FieldType) := [(cA 0, .int), (cA 1, .long), (cA 2, .boolean), (cA 3, .byte), (cA 4, .object "ClothEnds$Stand"), (cA 5, .object "ClothEnds$Rule")]
theorem dom_nodup : domL.Nodup := by decide +kernel
theorem dom_obj : ∀ o, o < clsL.length → (o, 0) ∈ domL := fun o h => List.mem_flatMap.mpr ⟨o, List.mem_range.mpr h, List.mem_cons_self⟩
theorem cls_lt {o c : Nat} (h : cls o = c) (hc : c < 99) : o < clsL.length := by
  rcases Nat.lt_or_ge o clsL.length with q | q
  · exact q
  · exfalso
    have : cls o = 99 := by unfold cls; rw [List.getD_eq_getElem?_getD, List.getElem?_eq_none q]; rfl
    omega
theorem ftab_lt {ci j : Nat} (h : (ftab ci j).1 < 99) : j < nF ci := by
  rcases Nat.lt_or_ge j (nF ci) with q | q
  · exact q
  · exfalso
    have : ftab ci j = (99, 0) := by
      unfold ftab
      rw [List.getD_eq_getElem?_getD, List.getElem?_eq_none q]
      rfl
    rw [this] at h
    exact absurd h (by decide)
theorem nF_99 : nF 99 = 0 := rfl
theorem dom_arr {o j : Nat} (h : isArr (ftab (cls o) j).1 = true) : (o, j + 1) ∈ domL := by
  have h2 : (ftab (cls o) j).1 < 99 := by
    unfold isArr at h
    simp only [Bool.and_eq_true, decide_eq_true_eq] at h
    omega
  have hj := ftab_lt h2
  have ho : o < clsL.length := by
    rcases Nat.lt_or_ge o clsL.length with q | q
    · exact q
    · exfalso
      have : cls o = 99 := by unfold cls; rw [List.getD_eq_getElem?_getD, List.getElem?_eq_none q]; rfl
      rw [this, nF_99] at hj
      omega
  exact List.mem_flatMap.mpr ⟨o, List.mem_range.mpr ho, List.mem_cons_of_mem _ (List.mem_map.mpr ⟨j, List.mem_filter.mpr ⟨List.mem_range.mpr hj, h⟩, rfl⟩)⟩
theorem wl_at (ad : Nat × Nat → Nat) (cA : Nat → ClassId) (σ : Mem) {d : Nat × Nat} (h : d ∈ domL) : ∃ q0 : Nat, domL[q0]? = some d ∧ (wlst ad cA σ)[q0]? = some (ad d, kcell ad cA σ d) := by
  obtain ⟨i, hi⟩ := List.getElem?_of_mem h
  exact ⟨i, hi, by rw [wlst, List.getElem?_map, hi]; rfl⟩
theorem wl_set (ad : Nat × Nat → Nat) (cA : Nat → ClassId) (σ τ : Mem) {d : Nat × Nat} {q0 : Nat} (h : domL[q0]? = some d) (hd : ∀ d', d' ≠ d → kcell ad cA τ d' = kcell ad cA σ d') : (wlst ad cA σ).set q0 (ad d, kcell ad cA τ d) = wlst ad cA τ := by
  refine List.ext_getElem? fun i => ?_
  rw [List.getElem?_set]
  have hq : q0 < domL.length := (List.getElem?_eq_some_iff.mp h).1
  by_cases e : q0 = i
  · subst e
    rw [if_pos rfl, if_pos (by rw [wlst, List.length_map]; exact hq), wlst, List.getElem?_map, h]
    rfl
  · rw [if_neg e, wlst, wlst, List.getElem?_map, List.getElem?_map]
    cases hi : domL[i]? with
    | none => rfl
    | some d' =>
      have hne : d' ≠ d := by
        intro q
        subst q
        exact e ((List.getElem?_inj hq dom_nodup).mp (h.trans hi.symm))
      show some (ad d', kcell ad cA σ d') = some (ad d', kcell ad cA τ d')
      rw [hd d' hne]
theorem upd_other {σ : Mem} {o j o' j' : Nat} {i v k : Int} (h : o' ≠ o ∨ j' ≠ j) : updM σ o j i v o' j' k = σ o' j' k := by
  unfold updM
  rw [if_neg]
  rintro ⟨a, b, -⟩
  rcases h with h | h
  · exact h a
  · exact h b
theorem upd_same {σ : Mem} {o j : Nat} {i v : Int} : updM σ o j i v o j i = v := if_pos ⟨rfl, rfl, rfl⟩
theorem arrE_upd (ad : Nat × Nat → Nat) (cA : Nat → ClassId) (σ : Mem) {o j o' j' : Nat} {i v : Int} {kn : Nat × Nat} (h : o' ≠ o ∨ j' ≠ j) : arrE ad cA (updM σ o j i v) o' j' kn = arrE ad cA σ o' j' kn := by
  unfold arrE
  split <;> simp only [upd_other h]
theorem fieldV_upd (ad : Nat × Nat → Nat) (σ : Mem) {o j o' j' : Nat} {i v : Int} (h : o' ≠ o ∨ j' ≠ j) : fieldV ad (updM σ o j i v) o' j' = fieldV ad σ o' j' := by
  unfold fieldV
  split <;> simp only [upd_other h]
theorem fieldV_arr (ad : Nat × Nat → Nat) (σ : Mem) {o j : Nat} (hk : isArr (ftab (cls o) j).1 = true) : fieldV ad σ o j = .ref (ad (o, j + 1)) := by
  unfold fieldV
  unfold isArr at hk
  simp only [Bool.and_eq_true, decide_eq_true_eq] at hk
  split <;> first | rfl | (exfalso; omega)
theorem kcell_arr (ad : Nat × Nat → Nat) (cA : Nat → ClassId) (σ : Mem) {o j : Nat} {i v : Int} (hk : isArr (ftab (cls o) j).1 = true) : ∀ d', d' ≠ (o, j + 1) → kcell ad cA (updM σ o j i v) d' = kcell ad cA σ d' := by
  rintro ⟨o', j'⟩ hne
  cases j' with
  | zero =>
    show (Sum.inr (cls o', (List.range (nF (cls o'))).map (fieldV ad (updM σ o j i v) o')) : va_E) = Sum.inr (cls o', (List.range (nF (cls o'))).map (fieldV ad σ o'))
    congr 2
    refine List.map_congr_left fun q _ => ?_
    by_cases h : o' = o ∧ q = j
    · obtain ⟨rfl, rfl⟩ := h
      rw [fieldV_arr ad _ hk, fieldV_arr ad _ hk]
    · exact fieldV_upd ad σ (by
        by_cases h1 : o' = o
        · exact Or.inr fun h2 => h ⟨h1, h2⟩
        · exact Or.inl h1)
  | succ j' =>
    exact arrE_upd ad cA σ (by
      by_cases h : o' = o
      · refine Or.inr fun q => hne ?_
        rw [h, q]
      · exact Or.inl h)
theorem kcell_obj (ad : Nat × Nat → Nat) (cA : Nat → ClassId) (σ : Mem) {o j : Nat} {i v : Int} (hk : (ftab (cls o) j).1 < 3) : ∀ d', d' ≠ (o, 0) → kcell ad cA (updM σ o j i v) d' = kcell ad cA σ d' := by
  rintro ⟨o', j'⟩ hne
  cases j' with
  | zero =>
    have ho : o' ≠ o := fun q => hne (by rw [q])
    show (Sum.inr (cls o', (List.range (nF (cls o'))).map (fieldV ad (updM σ o j i v) o')) : va_E) = Sum.inr (cls o', (List.range (nF (cls o'))).map (fieldV ad σ o'))
    congr 2
    exact List.map_congr_left fun q _ => fieldV_upd ad σ (Or.inl ho)
  | succ j' =>
    show arrE ad cA (updM σ o j i v) o' j' _ = arrE ad cA σ o' j' _
    by_cases h : o' = o ∧ j' = j
    · obtain ⟨rfl, rfl⟩ := h
      have h3 : (ftab (cls o') j').1 = 0 ∨ (ftab (cls o') j').1 = 1 ∨ (ftab (cls o') j').1 = 2 := by omega
      rcases h3 with h | h | h <;> simp only [arrE, h]
    · exact arrE_upd ad cA σ (by
        by_cases h1 : o' = o
        · exact Or.inr fun h2 => h ⟨h1, h2⟩
        · exact Or.inl h1)
theorem fields_set (ad : Nat × Nat → Nat) (σ : Mem) {o j : Nat} {v : Int} (hj : j < nF (cls o)) : (List.range (nF (cls o))).map (fieldV ad (updM σ o j 0 v) o) = ((List.range (nF (cls o))).map (fieldV ad σ o)).set j (fieldV ad (updM σ o j 0 v) o j) := by
  refine List.ext_getElem? fun q => ?_
  rw [List.getElem?_set, List.getElem?_map, List.getElem?_map]
  by_cases e : j = q
  · subst e
    rw [if_pos rfl, if_pos (by rw [List.length_map, List.length_range]; exact hj), List.getElem?_range hj]
    rfl
  · rw [if_neg e]
    cases h : (List.range (nF (cls o)))[q]? with
    | none => rfl
    | some q' =>
      have : q' = q := by
        obtain ⟨h1, h2⟩ := List.getElem?_eq_some_iff.mp h
        rw [List.getElem_range] at h2
        exact h2.symm
      subst this
      show some (fieldV ad (updM σ o j 0 v) o q') = some (fieldV ad σ o q')
      rw [fieldV_upd ad σ (Or.inr fun z => e z.symm)]
/-- what a field holds, as a value -/
theorem vv_fvl (ad : Nat × Nat → Nat) (kd : Nat → Value) (σ : Mem) {o ci j : Nat} (h : cls o = ci) : vv ad kd (fvl ci j o σ) = fieldV ad σ o j := by
  subst h
  unfold fvl fieldV
  generalize (ftab (cls o) j).1 = k
  rcases k with _ | _ | _ | _ | _ | _ | _ | _ | _ | _ | k <;> rfl
/-! ===== numbers ===== -/
theorem iI_toInt (x : Int32) : iI x.toInt = x := Int32.ofInt_toInt x
theorem lI_toInt (x : Int64) : lI x.toInt = x := Int64.ofInt_toInt x
theorem iI_add (x y : Int) : iI (x + y) = iI x + iI y := Int32.ofInt_add x y
theorem iI_sub (x y : Int) : iI (x - y) = iI x - iI y := Int32.ofInt_sub x y
theorem iI_mul (x y : Int) : iI (x * y) = iI x * iI y := Int32.ofInt_mul x y
theorem lI_add (x y : Int) : lI (x + y) = lI x + lI y := Int64.ofInt_add x y
theorem lI_sub (x y : Int) : lI (x - y) = lI x - lI y := Int64.ofInt_sub x y
theorem lI_mul (x y : Int) : lI (x * y) = lI x * lI y := Int64.ofInt_mul x y
theorem wr_def (x : Int) : (iI x).toInt = wr x := by
  show (Int32.ofInt x).toInt = (x + 2147483648) % 4294967296 - 2147483648
  rw [Int32.toInt_ofInt, Int.bmod_def, show (Int32.size : Nat) = 4294967296 from rfl]
  split <;> omega
theorem wL_def (x : Int) : (lI x).toInt = wL x := by
  show (Int64.ofInt x).toInt = (x + 9223372036854775808) % 18446744073709551616 - 9223372036854775808
  rw [Int64.toInt_ofInt, Int.bmod_def, show (Int64.size : Nat) = 18446744073709551616 from rfl]
  split <;> omega
theorem iI_wr (x : Int) : iI (wr x) = iI x := by rw [← wr_def]; exact iI_toInt _
theorem lI_wL (x : Int) : lI (wL x) = lI x := by rw [← wL_def]; exact lI_toInt _
theorem lI_wr (x : Int) : lI (wr x) = (iI x).toInt64 := by
  refine Int64.toInt.inj ?_
  rw [← wr_def]
  show (Int64.ofInt (iI x).toInt).toInt = _
  rw [Int64.toInt_ofInt, Int32.toInt_toInt64]
  have h1 := Int32.le_toInt (iI x)
  have h2 := Int32.toInt_lt (iI x)
  exact Int.bmod_eq_of_le (by simp at h1 ⊢; omega) (by simp at h2 ⊢; omega)
theorem iI_l (x : Int) : (lI x).toInt32 = iI x := Int64.toInt32_ofInt
theorem wr_lt (x y : Int) : iI x < iI y ↔ wr x < wr y := by rw [← wr_def, ← wr_def]; exact Int32.lt_iff_toInt_lt
theorem wr_le (x y : Int) : iI x ≤ iI y ↔ wr x ≤ wr y := by rw [← wr_def, ← wr_def]; exact Int32.le_iff_toInt_le
theorem wr_eq (x y : Int) : iI x = iI y ↔ wr x = wr y := by rw [← wr_def, ← wr_def]; exact Int32.toInt_inj.symm
theorem wr_0 : wr 0 = 0 := by decide
theorem wr_lt0 (x : Int) : iI x < 0 ↔ wr x < 0 := by rw [show (0 : Int32) = iI 0 from rfl, wr_lt, wr_0]
theorem wr_ge0 (x : Int) : 0 ≤ iI x ↔ 0 ≤ wr x := by rw [show (0 : Int32) = iI 0 from rfl, wr_le, wr_0]
theorem wr_gt0 (x : Int) : 0 < iI x ↔ 0 < wr x := by rw [show (0 : Int32) = iI 0 from rfl, wr_lt, wr_0]
theorem wr_le0 (x : Int) : iI x ≤ 0 ↔ wr x ≤ 0 := by rw [show (0 : Int32) = iI 0 from rfl, wr_le, wr_0]
theorem wr_eq0 (x : Int) : iI x = 0 ↔ wr x = 0 := by rw [show (0 : Int32) = iI 0 from rfl, wr_eq, wr_0]
theorem wL_eq0 (x : Int) : lI x = 0 ↔ wL x = 0 := by
  rw [show (0 : Int64) = lI 0 from rfl, ← wL_def, ← Int64.toInt_inj]
  rfl
theorem ix_in {x : Int} {n : Nat} (h : 0 ≤ wr x ∧ wr x < n) : vp_in (iI x) n := vp_in_iff.mpr (by rw [wr_def]; exact h)
theorem ix_at {x : Int} (h : 0 ≤ wr x) : (((iI x).toNatClampNeg : Nat) : Int) = wr x := by
  show ((iI x).toInt.toNat : Int) = wr x
  rw [wr_def]
  exact Int.toNat_of_nonneg h
theorem upd_iI (σ : Mem) {o j : Nat} {x v : Int} (h : 0 ≤ wr x) : upd (fun i => iI (σ o j (i : Int))) (iI x).toNatClampNeg (iI v) = fun i : Nat => iI (updM σ o j (wr x) v o j (i : Int)) := by
  funext i
  unfold upd updM
  by_cases e : i = (iI x).toNatClampNeg
  · rw [if_pos e, if_pos ⟨rfl, rfl, by rw [e]; exact ix_at h⟩]
  · rw [if_neg e, if_neg]
    rintro ⟨-, -, q⟩
    rw [← ix_at h] at q
    exact e (Int.ofNat.inj q)
theorem upd_lI (σ : Mem) {o j : Nat} {x v : Int} (h : 0 ≤ wr x) : vp_updL (fun i => lI (σ o j (i : Int))) (iI x).toNatClampNeg (lI v) = fun i : Nat => lI (updM σ o j (wr x) v o j (i : Int)) := by
  funext i
  unfold vp_updL updM
  by_cases e : i = (iI x).toNatClampNeg
  · rw [if_pos e, if_pos ⟨rfl, rfl, by rw [e]; exact ix_at h⟩]
  · rw [if_neg e, if_neg]
    rintro ⟨-, -, q⟩
    rw [← ix_at h] at q
    exact e (Int.ofNat.inj q)
theorem nar_Z {x : Int} (h : x = 0 ∨ x = 1) : narrow .boolean (.int (iI x)) = .int (iI x) := by rcases h with rfl | rfl <;> decide
theorem nar_B {x : Int} (h : -128 ≤ x ∧ x ≤ 127) : narrow .byte (.int (iI x)) = .int (iI x) := by
  show Value.int (iI x).toInt8.toInt32 = Value.int (iI x)
  have e1 : (iI x).toInt8 = Int8.ofInt x := Int32.toInt8_ofInt
  rw [e1, Int8.toInt32_ofInt h.1 h.2]
  rfl
theorem vp_Z {x : Int} (h : x = 0 ∨ x = 1) : vp_nar .boolean (iI x) = iI x := by unfold vp_nar; rw [nar_Z h]
theorem nar_any (x : Int) : ∃ y : Int, (y = 0 ∨ y = 1) ∧ ((x = 0 ∨ x = 1) → y = x) ∧ vp_nar .boolean (iI x) = iI y := by
  by_cases hx : x = 0 ∨ x = 1
  · exact ⟨x, hx, fun _ => rfl, vp_Z hx⟩
  · have h := fits_narrow_boolean (iI x)
    simp only [narrow, fits, Bool.or_eq_true, beq_iff_eq] at h
    rcases h with h | h
    · exact ⟨0, Or.inl rfl, fun z => absurd z hx, by unfold vp_nar; exact h⟩
    · exact ⟨1, Or.inr rfl, fun z => absurd z hx, by unfold vp_nar; exact h⟩
theorem vp_B {x : Int} (h : -128 ≤ x ∧ x ≤ 127) : vp_nar .byte (iI x) = iI x := by unfold vp_nar; rw [nar_B h]
theorem fit_Z {x : Int} (h : x = 0 ∨ x = 1) : fits .boolean (.int (iI x)) = true := by rcases h with rfl | rfl <;> decide
