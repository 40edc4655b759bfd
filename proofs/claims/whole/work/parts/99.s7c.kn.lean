/-! ===== the classes and arrays are known at the start ===== -/
section KN
variable {args : Array Value} {s : State}
theorem ar_prim {ty : FieldType} (h : (Cond.arrayClass ty).before args s = true) : ∃ cA : ClassId, ArrOfT s cA ty ∧ s.vm.findClass ("[" ++ ty.toString) = some cA := by
  obtain ⟨c, k, comp, h1, h2, h3⟩ := Cond.arrayClass_spec h
  exact ⟨c, fun n z => ⟨fun q h => by (cases h), k, h2, comp, h3⟩, h1⟩
theorem ar_obj {C : String} (h : (Cond.arrayOver (.object C)).before args s = true) : ∃ cA : ClassId, ArrOfT s cA (.object C) ∧ va_RA s cA (.object C) := by
  obtain ⟨comp, c, k, h1, -, h3, h4, h5⟩ := Cond.arrayOver_spec h
  exact ⟨c, fun n z => ⟨fun q h => by (cases h), k, h3, comp, h4⟩, k, comp, h3, h4, h1, h5⟩
theorem K_start (hts : ∀ w ∈ lw_tbl, w.before args s = true) : ∃ (D : va_G) (cA : Nat → ClassId), va_K D vwCl (tysG cA) s := by
  have hw : ∀ w ∈ swL, w.before args s = true := fun w q => hts w (sw_in w q)
  obtain ⟨a0, p0, q0⟩ := ar_prim (hw (.arrayClass .int) (List.mem_of_getElem? (i := 9) rfl))
  obtain ⟨a1, p1, q1⟩ := ar_prim (hw (.arrayClass .long) (List.mem_of_getElem? (i := 10) rfl))
  obtain ⟨a2, p2, q2⟩ := ar_prim (hw (.arrayClass .boolean) (List.mem_of_getElem? (i := 11) rfl))
  obtain ⟨a3, p3, q3⟩ := ar_prim (hw (.arrayClass .byte) (List.mem_of_getElem? (i := 12) rfl))
  obtain ⟨a4, p4, q4⟩ := ar_obj (hw (.arrayOver (.object "ClothEnds$Stand")) (List.mem_of_getElem? (i := 13) rfl))
  obtain ⟨a5, p5, q5⟩ := ar_obj (hw (.arrayOver (.object "ClothEnds$Rule")) (List.mem_of_getElem? (i := 14) rfl))
  have h0 : ∀ k : Nat, ∃ q : ClassId × (Nat → Nat), ∀ r : vw_C, vwCl[k]? = some r → u_Kn s r.1 r.2.1 r.2.2 q.1 q.2 := by
    intro k
    cases hk : vwCl[k]? with
    | none => exact ⟨(a0, fun _ => 0), fun r hr => by cases hr⟩
    | some r =>
      obtain ⟨C, T, N⟩ := r
      obtain ⟨cC, iS, hKn⟩ := u_known (ws := lw_tbl) (C := C) (T := T) (N := N) (n := N) hts (fun w h => (List.mem_filter.mp ((CLK_ok _ _ _ _ hk).2.1 w h)).1) (hts _ (in_in _ (List.mem_map.mpr ⟨(C, T, N), List.mem_of_getElem? hk, rfl⟩)))
      exact ⟨(cC, iS), fun r hr => by cases hr; exact hKn⟩
  obtain ⟨g, hg⟩ := Classical.axiomOfChoice h0
  refine ⟨(fun k => (g k).1, fun k => (g k).2), fun k => match k with
    | 0 => a0
    | 1 => a1
    | 2 => a2
    | 3 => a3
    | 4 => a4
    | _ => a5, fun k r hr => hg k r hr, fun k q hq => ?_⟩
  match k, hq with
  | 0, hq => cases hq; exact ⟨p0, q0⟩
  | 1, hq => cases hq; exact ⟨p1, q1⟩
  | 2, hq => cases hq; exact ⟨p2, q2⟩
  | 3, hq => cases hq; exact ⟨p3, q3⟩
  | 4, hq => cases hq; exact ⟨p4, q4⟩
  | 5, hq => cases hq; exact ⟨p5, q5⟩
  | k + 6, hq => simp [tysG] at hq
theorem ex_start (hts : ∀ w ∈ lw_tbl, w.before args s = true) : exN s := by
  have hw : ∀ w ∈ swL, w.before args s = true := fun w q => hts w (sw_in w q)
  exact ⟨va_AO.of (hw _ (List.mem_of_getElem? (i := 13) rfl)), va_AO.of (hw _ (List.mem_of_getElem? (i := 14) rfl)), fun q hq => va_Nw.of rfl (hts _ (ns_in _ (List.mem_map.mpr ⟨q, hq, rfl⟩)))⟩
end KN
