/-! ===== the constants stand in the heap ===== -/
theorem eqs_t {args : Array Value} {s : State} {a b : Term} {t : Nat} (h : (Cond.eq a b).before args s = true) (ha : a.eval args s none [] s = some (.ref t)) : b.eval args s none [] s = some (.ref t) := by
  cases hb : b.eval args s none [] s with
  | none => simp [Cond.before, Cond.holds, Cond.value, ha, hb] at h
  | some w =>
    simp only [Cond.before, Cond.holds, Cond.value, ha, hb] at h
    cases w <;> simp_all
theorem ckq_lt {q : Nat} (h : ¬ ckind q = 0) : q < 60 := by
  refine Nat.lt_of_not_le fun c => h ?_
  unfold ckind
  rw [List.getD_eq_getElem?_getD, List.getElem?_eq_none (show ckL.length ≤ q from c)]
  rfl
set_option maxRecDepth 20000 in
theorem ck_tab1 : ∀ q, q < 60 → (ckind q = 3 → q ∈ [1, 2, 3, 4]) ∧ (ckind q = 6 → 1 ≤ q ∧ (q - 1) ∈ evq) ∧ clen q ≤ 100 := by decide +kernel
set_option maxRecDepth 20000 in
theorem ck_tab2 : ∀ q, q < 60 → ckind q = 20 → q ∈ evq ∧ ckind (q + 1) = 6 := by decide +kernel
set_option maxRecDepth 20000 in
theorem ck_tab4 : ∀ q ∈ evq, Cond.exactly (ctm (q + 1)) "" = Cond.exactly (.field (ctm q) "java/lang/String" "value" "[B") "" := by decide +kernel
theorem ck_tab3 : ∀ q, q < 60 → ckind q = 3 ∨ ckind q = 6 ∨ ckind q = 20 → ¬ q = 5 ∧ ¬ q = 7 := by decide +kernel
theorem ck_tab (q : Nat) (h : q < 60) : (ckind q = 3 → q ∈ [1, 2, 3, 4]) ∧ (ckind q = 20 → q ∈ evq ∧ ckind (q + 1) = 6 ∧ Cond.exactly (ctm (q + 1)) "" = Cond.exactly (.field (ctm q) "java/lang/String" "value" "[B") "") ∧ (ckind q = 6 → 1 ≤ q ∧ (q - 1) ∈ evq) ∧ clen q ≤ 100 ∧ (ckind q = 3 ∨ ckind q = 6 ∨ ckind q = 20 → ¬ q = 5 ∧ ¬ q = 7) :=
  ⟨(ck_tab1 q h).1, fun k => ⟨(ck_tab2 q h k).1, (ck_tab2 q h k).2, ck_tab4 q (ck_tab2 q h k).1⟩, (ck_tab1 q h).2.1, (ck_tab1 q h).2.2, ck_tab3 q h⟩
theorem ck_ev : ∀ q, q ∈ evq → ckind q = 20 ∧ 10 ≤ q ∧ ckind (q + 1) = 6 := by decide +kernel
section GV
variable {args : Array Value} {s : State} {z b : Nat} {v5 : Value}
theorem nd_A (h : ∀ w ∈ ndL, w.before args s = true) {q : Nat} (hq : ckind q = 3 ∨ ckind q = 6) : ∀ w ∈ ndA q, w.before args s = true := by
  intro w hw
  refine h w ?_
  unfold ndL
  rcases hq with hq | hq
  · exact List.mem_append_left _ (List.mem_flatMap.mpr ⟨q, (ck_tab q (ckq_lt (by omega))).1 hq, hw⟩)
  · obtain ⟨h1, h2⟩ := (ck_tab q (ckq_lt (by omega))).2.2.1 hq
    refine List.mem_append_right _ (List.mem_flatMap.mpr ⟨q - 1, h2, ?_⟩)
    unfold ndS
    rw [show q - 1 + 1 = q by omega]
    exact List.mem_cons_of_mem _ (List.mem_cons_of_mem _ hw)
theorem con_T (h : ∀ w ∈ ndL, w.before args s = true) (hA : ∀ a : Nat, a < s.heap.size → ¬ z ≤ a) {q : Nat} (hq : ckind q = 3 ∨ ckind q = 6) : ∃ t : Nat, (ctm q).eval args s none [] s = some (.ref t) ∧ va_T (cty q) t (clen q) (fun j => .int (iI (cval q (j : Int)))) (fun a => z ≤ a) s s.heap := by
  have hn := nd_A h hq
  have hl := (ck_tab q (ckq_lt (by omega))).2.2.2.1
  unfold ndA at hn
  refine va_Tof (f := fun j => .int (iI (cval q (j : Int)))) (A := fun a => z ≤ a) (by omega) (hn _ List.mem_cons_self) (va_eqt (hn _ (List.mem_cons_of_mem _ List.mem_cons_self))) (fun j hj => va_eqt (hn _ ?_)) hA
  exact List.mem_cons_of_mem _ (List.mem_cons_of_mem _ (List.mem_map.mpr ⟨j, List.mem_range.mpr hj, rfl⟩))
theorem con_S (h : ∀ w ∈ ndL, w.before args s = true) (hA : ∀ a : Nat, a < s.heap.size → ¬ z ≤ a) {q : Nat} (hq : ckind q = 20) : ∃ t t2 : Nat, (ctm q).eval args s none [] s = some (.ref t) ∧ (ctm (q + 1)).eval args s none [] s = some (.ref t2) ∧ va_O "java/lang/String" t (fun a => z ≤ a) s s.heap ∧ va_OF "java/lang/String" "coder" "B" (.int 0) t (fun a => z ≤ a) s s.heap ∧ va_OF "java/lang/String" "value" "[B" (.ref t2) t (fun a => z ≤ a) s s.heap := by
  obtain ⟨h1, h2, h3⟩ := (ck_tab q (ckq_lt (by omega))).2.1 hq
  have hm : ∀ w ∈ ndS q, w.before args s = true := fun w hw => h w (List.mem_append_right _ (List.mem_flatMap.mpr ⟨q, h1, hw⟩))
  unfold ndS at hm
  have hex := hm _ List.mem_cons_self
  have hco := hm _ (List.mem_cons_of_mem _ List.mem_cons_self)
  obtain ⟨a, c, cA, kA, q1, -⟩ := Cond.exactly_spec (args := args) (first := s) (o := none) (s := s) (idx := []) (t := ctm q) (cls := "java/lang/String") hex
  obtain ⟨t2, ht2, -⟩ := con_T h hA (Or.inr h2)
  refine ⟨a, t2, q1, ht2, va_Oof hex q1 hA, vk_OFof q1 (va_eqt hco) hA, vk_OFof q1 ?_ hA⟩
  rw [← (Cond.exactly.inj h3).1]
  exact ht2
def kdS (args : Array Value) (s : State) (b : Nat) (v5 : Value) (q : Nat) : Value := if q = 5 then v5 else if q = 7 then .ref b else match (ctm q).eval args s none [] s with
  | some (.ref t) => .ref t
  | _ => .ref 0
theorem kdS_at {q t : Nat} (h5 : ¬ q = 5 ∧ ¬ q = 7) (h : (ctm q).eval args s none [] s = some (.ref t)) : kdS args s b v5 q = .ref t := by
  unfold kdS
  rw [if_neg h5.1, if_neg h5.2, h]
theorem kdS_ref {q : Nat} (h5 : ¬ q = 5) : ∃ a, kdS args s b v5 q = .ref a := by
  unfold kdS
  rw [if_neg h5]
  split
  · exact ⟨b, rfl⟩
  · split
    · exact ⟨_, rfl⟩
    · exact ⟨0, rfl⟩
set_option maxRecDepth 20000 in
theorem str_tab : ∀ e ∈ strL, ckind e.2.2.2 = 20 ∧ (Cond.exactly (ctm e.2.2.2) "" = Cond.exactly (.string e.1 e.2.1) "" ∨ Cond.eq (ctm e.2.2.2) (.string e.1 e.2.1) ∈ otL) := by decide +kernel
theorem KC_start {ad : Nat × Nat → Nat} (hts : ∀ w ∈ lw_tbl, w.before args s = true) (hg : (Jvm.Cond.and given_1 narrow_1).before args s = true) (hA : ∀ a : Nat, a < s.heap.size → ¬ z ≤ a) : ∃ v5 : Value, KC ad (kdS args s b v5) z s s.heap := by
  have h := ndL_in hg
  have ho := otL_in hg
  have hw : ∀ w ∈ swL, w.before args s = true := fun w q => hts w (sw_in w q)
  have h5 := va_Zqof (A := fun a => z ≤ a) (hw (.laysStatic "jdk/internal/util/Preconditions" "SIOOBE_FORMATTER" "Ljava/util/function/BiFunction;") (List.mem_of_getElem? (i := 5) rfl)) (hw (.initialized "jdk/internal/util/Preconditions") (List.mem_of_getElem? (i := 8) rfl)) (ho _ (List.mem_of_getElem? (i := 1) rfl)) hA
  obtain ⟨v5, hv5, hz5⟩ : ∃ v5 : Value, (v5 = .null ∨ ∃ a, v5 = .ref a) ∧ va_Z "jdk/internal/util/Preconditions" "SIOOBE_FORMATTER" "Ljava/util/function/BiFunction;" v5 (fun a => z ≤ a) s s.heap := by
    rcases h5 with h5 | ⟨t, h5⟩
    · exact ⟨_, Or.inl rfl, h5⟩
    · exact ⟨_, Or.inr ⟨t, rfl⟩, h5⟩
  have one : ∀ (q i : Nat) (nm : String), ckind q = 3 → Cond.exactly (ctm q) "" = Cond.exactly (.static "ClothEnds$ShopReader" nm "[I") "" → swL[i]? = some (.laysStatic "ClothEnds$ShopReader" nm "[I") → va_Z "ClothEnds$ShopReader" nm "[I" (vv ad (kdS args s b v5) (vC q)) (fun a => z ≤ a) s s.heap := by
    intro q i nm hk hc hi
    obtain ⟨t, ht, -⟩ := con_T h hA (q := q) (Or.inl hk)
    show va_Z _ _ _ (kdS args s b v5 q) _ _ _
    rw [kdS_at ((ck_tab q (ckq_lt (by omega))).2.2.2.2 (Or.inl hk)) ht]
    rw [(Cond.exactly.inj hc).1] at ht
    exact va_Zof (hw _ (List.mem_of_getElem? hi)) (hw (.initialized "ClothEnds$ShopReader") (List.mem_of_getElem? (i := 6) rfl)) ht hA
  refine ⟨v5, ⟨fun q => ?_, fun q hq => kdS_ref hq⟩, fun q hk => ?_, fun q hk => ?_, fun q hk => ?_, ?_, fun e he => ?_⟩
  · by_cases hq : q = 5
    · subst hq
      exact hv5
    · exact Or.inr (kdS_ref hq)
  · obtain ⟨t, ht, hT⟩ := con_T h hA (q := q) (Or.inl hk)
    have hq := (ck_tab q (ckq_lt (by omega))).1 hk
    have e : cty q = .int := by
      unfold cty
      rw [if_pos]
      simp only [List.mem_cons, List.not_mem_nil, or_false] at hq
      omega
    rw [e] at hT
    exact ⟨t, kdS_at ((ck_tab q (ckq_lt (by omega))).2.2.2.2 (Or.inl hk)) ht, hT⟩
  · obtain ⟨t, ht, hT⟩ := con_T h hA (q := q) (Or.inr hk)
    obtain ⟨h1, hq⟩ := (ck_tab q (ckq_lt (by omega))).2.2.1 hk
    have e : cty q = .byte := by
      unfold cty
      rw [if_neg]
      have := (ck_ev _ hq).2.1
      omega
    rw [e] at hT
    exact ⟨t, kdS_at ((ck_tab q (ckq_lt (by omega))).2.2.2.2 (Or.inr (Or.inl hk))) ht, hT⟩
  · obtain ⟨t, t2, ht, ht2, a1, a2, a3⟩ := con_S h hA hk
    obtain ⟨h1, h2, h3⟩ := (ck_tab q (ckq_lt (by omega))).2.1 hk
    refine ⟨t, kdS_at ((ck_tab q (ckq_lt (by omega))).2.2.2.2 (Or.inr (Or.inr hk))) ht, a1, a2, ?_⟩
    rw [kdS_at ((ck_tab (q + 1) (ckq_lt (by omega))).2.2.2.2 (Or.inr (Or.inl h2))) ht2]
    exact a3
  · unfold statL
    refine List.forall_mem_cons.mpr ⟨one 1 0 _ (by decide) (by decide +kernel) rfl, List.forall_mem_cons.mpr ⟨one 2 1 _ (by decide) (by decide +kernel) rfl, List.forall_mem_cons.mpr ⟨one 3 2 _ (by decide) (by decide +kernel) rfl, List.forall_mem_cons.mpr ⟨one 4 3 _ (by decide) (by decide +kernel) rfl, List.forall_mem_cons.mpr ⟨?_, List.forall_mem_cons.mpr ⟨hz5, fun _ h => absurd h List.not_mem_nil⟩⟩⟩⟩⟩⟩
    exact va_Zof (hw (.laysStatic "java/lang/String" "COMPACT_STRINGS" "Z") (List.mem_of_getElem? (i := 4) rfl)) (hw (.initialized "java/lang/String") (List.mem_of_getElem? (i := 7) rfl)) (va_eqi (ho (.eq (.static "java/lang/String" "COMPACT_STRINGS" "Z") (.int 1)) (List.mem_of_getElem? (i := 0) rfl))) hA
  · obtain ⟨hk, hc⟩ := str_tab e he
    obtain ⟨t, t2, ht, -⟩ := con_S h hA hk
    refine ⟨t, kdS_at ((ck_tab _ (ckq_lt (by omega))).2.2.2.2 (Or.inr (Or.inr hk))) ht, vk_R.of (hts _ (sr_in _ (List.mem_map.mpr ⟨e, he, rfl⟩))) ?_⟩
    rcases hc with hc | hc
    · rw [← (Cond.exactly.inj hc).1]; exact ht
    · exact eqs_t (ho _ hc) ht
end GV
