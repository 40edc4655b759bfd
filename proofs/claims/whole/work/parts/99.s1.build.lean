/-! ===== constructors: what a new object holds ===== -/
def s0 : Mem := fun o j _ => if o = 34 ∧ j = 41 then 9 else 0
def dvF (k : Nat) : Value := match k with
  | 0 => .int 0
  | 1 => .long 0
  | 2 => .int 0
  | _ => .null
def addS (S : Nat → Bool) (k : Nat) : Nat → Bool := fun j => S j || j == k
def fvK (ad : Nat × Nat → Nat) (o : Nat) (S : Nat → Bool) (j : Nat) : Value := if S j = true then fieldV ad s0 o j else dvF (ftab (cls o) j).1
/-- the fields of an object of which those in S are set -/
def fsK (ad : Nat × Nat → Nat) (o : Nat) (S : Nat → Bool) : List Value := (List.range (nF (cls o))).map (fvK ad o S)
theorem fsK_len (ad : Nat × Nat → Nat) (o : Nat) (S : Nat → Bool) : (fsK ad o S).length = nF (cls o) := by
  unfold fsK
  rw [List.length_map, List.length_range]
theorem fsK_set {ad : Nat × Nat → Nat} {o k : Nat} {S : Nat → Bool} (hk : k < nF (cls o)) : (fsK ad o S).set k (fieldV ad s0 o k) = fsK ad o (addS S k) := by
  refine List.ext_getElem? fun q => ?_
  rw [List.getElem?_set]
  by_cases e : k = q
  · subst e
    rw [if_pos rfl, if_pos (by rw [fsK_len]; exact hk)]
    unfold fsK
    rw [List.getElem?_map, List.getElem?_range hk]
    show some (fieldV ad s0 o k) = some (fvK ad o (addS S k) k)
    unfold fvK addS
    rw [if_pos (by simp)]
  · rw [if_neg e]
    unfold fsK
    rw [List.getElem?_map, List.getElem?_map]
    cases h : (List.range (nF (cls o)))[q]? with
    | none => rfl
    | some q' =>
      have hq : q' = q := by
        obtain ⟨h1, h2⟩ := List.getElem?_eq_some_iff.mp h
        rw [List.getElem_range] at h2
        exact h2.symm
      subst hq
      show some (fvK ad o S q') = some (fvK ad o (addS S k) q')
      have hs : addS S k q' = S q' := by
        unfold addS
        rw [show (q' == k) = false from beq_eq_false_iff_ne.mpr (fun z => e z.symm), Bool.or_false]
      unfold fvK
      rw [hs]
theorem fsK_full {ad : Nat × Nat → Nat} {cA : Nat → ClassId} {o : Nat} {S : Nat → Bool} (h : ∀ j, j < nF (cls o) → S j = true ∨ fieldV ad s0 o j = dvF (ftab (cls o) j).1) : (Sum.inr (cls o, fsK ad o S) : va_E) = kcell ad cA s0 (o, 0) := by
  show (Sum.inr (cls o, fsK ad o S) : va_E) = Sum.inr (cls o, (List.range (nF (cls o))).map (fieldV ad s0 o))
  congr 2
  refine List.map_congr_left fun q hq => ?_
  unfold fvK
  rcases h q (List.mem_range.mp hq) with z | z
  · rw [if_pos z]
  · split
    · rfl
    · exact z.symm
theorem fv_def {ad : Nat × Nat → Nat} {o k : Nat} (hk : (ftab (cls o) k).1 < 3) (h0 : s0 o k 0 = 0) : fieldV ad s0 o k = dvF (ftab (cls o) k).1 := by
  unfold fieldV dvF
  rw [h0]
  generalize (ftab (cls o) k).1 = q at hk
  rcases q with _ | _ | _ | q
  · rfl
  · rfl
  · rfl
  · omega
theorem fv_obj {ad : Nat × Nat → Nat} {o k o' : Nat} (hk : (ftab (cls o) k).1 = 9) (hs : subC (cls o) k o = o') : fieldV ad s0 o k = .ref (ad (o', 0)) := by
  unfold fieldV
  rw [hk, hs]
  rfl
/-- kinds of arrays of numbers: the instruction's word, the class's number, the value at first -/
def atK (kd : Nat) (at' : ArrayType) (t0 : Nat) (dv : Value) (ty : FieldType) : Prop :=
  (kd = 3 ∧ at' = .int ∧ t0 = 0 ∧ dv = .int 0 ∧ ty = .int) ∨ (kd = 4 ∧ at' = .long ∧ t0 = 1 ∧ dv = .long 0 ∧ ty = .long) ∨ (kd = 5 ∧ at' = .boolean ∧ t0 = 2 ∧ dv = .int 0 ∧ ty = .boolean) ∨ (kd = 6 ∧ at' = .byte ∧ t0 = 3 ∧ dv = .int 0 ∧ ty = .byte)
theorem arr_cell {D : va_G} {cA : Nat → ClassId} {ad : Nat × Nat → Nat} {kd N' o k q t0 : Nat} {at' : ArrayType} {dv : Value} {ty : FieldType} {H1 : Heap} (hk : ftab (cls o) k = (kd, N')) (hz : ¬ (o = 34 ∧ k = 41)) (ha : atK kd at' t0 dv ty) (e : H1[q]? = some (arrV (cA t0) N' (fun _ => dv))) : va_at D vwCl (q, kcell ad cA s0 (o, k + 1)) H1 := by
  have h0 : ∀ i : Int, s0 o k i = 0 := fun _ => if_neg hz
  show va_at D vwCl (q, arrE ad cA s0 o k (ftab (cls o) k)) H1
  rw [hk]
  rcases ha with ⟨h1, -, h2, h3, -⟩ | ⟨h1, -, h2, h3, -⟩ | ⟨h1, -, h2, h3, -⟩ | ⟨h1, -, h2, h3, -⟩
  · subst h1 h2 h3
    show H1[q]? = some (arrV (cA 0) N' (fun j => .int (iI (s0 o k (j : Int)))))
    simp only [h0]
    exact e
  · subst h1 h2 h3
    show H1[q]? = some (arrV (cA 1) N' (fun j => .long (lI (s0 o k (j : Int)))))
    simp only [h0]
    exact e
  · subst h1 h2 h3
    show H1[q]? = some (arrV (cA 2) N' (fun j => .int (iI (s0 o k (j : Int)))))
    simp only [h0]
    exact e
  · subst h1 h2 h3
    show H1[q]? = some (arrV (cA 3) N' (fun j => .int (iI (s0 o k (j : Int)))))
    simp only [h0]
    exact e
/-- a constructor's run: what stays -/
def CIc (p : Program) (s : State) (m : MethodId) (args : Array Value) (meth : Method) (c : Code) (cc : ByteArray) (nL : Nat) (D : va_G) (cA : Nat → ClassId) (own : String) : Prop :=
  (p.tables.exec = Jvm.exec ∧ c.code = cc ∧ c.maxLocals = nL ∧ s.vm.findClass own = some m.cls ∧ meth.name = "<init>") ∧ (∀ w ∈ gtb, w.before args s = true) ∧ va_K D vwCl (tysG cA) s
def rmI (d cnt slt : Nat) : Room := { frames := d, cells := cnt, slots := slt, locals := 40 * d }
section CT
variable {p : Program} {l : Launch} {e : Env} {R : Room} {s : State} {m : MethodId} {args : Array Value} {below : List Frame} {meth : Method} {c : Code} {H : Heap} {locs : List Loc} {cells slots : Nat} {Q : State → Prop}
variable {cc : ByteArray} {pc nL : Nat} {ls : Array Slot} {rest : List Value} {D : va_G} {cA : Nat → ClassId} {own : String} {A : Nat → Prop}
theorem i_put (hC : CIc p s m args meth c cc nL D cA own) (hS : va_S A s.heap H locs) {idx ci k a N : Nat} {T : u_T} (hcl : vwCl[ci]? = some (own, T, N)) (hk : k < N) (hlink : Cond.fieldLink own idx own (T k).2.1 (T k).2.2.1 ∈ gtb) (hA : A a) {fs : List Value} (he : va_at D vwCl (a, .inr (ci, fs)) H) (hl : k < fs.length) {ty : FieldType} {v : Value} (hd : parseFieldDescriptor (T k).2.2.1 = some ty) (hn : narrow ty v = v) (hfit : fits ty v = true) (hdg : decode cc pc = .ok (.putfield idx, 3))
    (kk : ∀ (H1 : Heap) (locs1 : List Loc), va_at D vwCl (a, .inr (ci, fs.set k v)) H1 → H1.size = H.size → (∀ q, q ≠ a → H1[q]? = H[q]?) → va_S A s.heap H1 locs1 → W p l e R s m args below meth c H1 locs1 cells slots Q (F0 m (pc + 3) ls rest)) : W p l e R s m args below meth c H locs cells slots Q (F0 m pc ls (v :: .ref a :: rest)) := by
  obtain ⟨⟨hx, hb, -, hown, hin⟩, hts, hK⟩ := hC
  obtain ⟨g1, g2, ⟨ty0, g3⟩, g4, g5⟩ := CLK_ok _ _ _ _ hcl
  have hap := va_apart (own := own) (D := D) (ci := ci) hts g2 ty0 g3 g4 hK hcl
  obtain ⟨r, r1, cell, q1, q2, q3, q4⟩ := he
  have hr : r = (own, T, N) := Option.some.inj (r1.symm.trans hcl)
  subst hr
  obtain ⟨hSl, hfc, kC, hkC, hkind⟩ := hK.1 ci _ hcl
  obtain ⟨cf, kf, fi, f, hi, hsl⟩ := hSl k hk
  have hlay := hts _ (g2 _ (u_in_lay hk))
  have hst := (u_facts hfc hkC (u_lays hts g2 hk) hi).1
  have hdecl := (g5 k hk).1
  have hi2 : s.fieldFound? own (T k).2.1 (T k).2.2.1 = some (cf, kf, fi, f) := by rw [← hdecl]; exact hi
  cases hfin : (T k).2.2.2 with
  | false =>
    unfold u_lay at hlay
    rw [if_neg (by rw [hfin]; decide)] at hlay
    have h6 := u_store hfc hkC hkind hlay hi hd hn hfit
    refine W.putK hx hb (f := f) ⟨hown, hts _ hlink, ⟨_, _, _, hi2⟩, hst⟩ (by rw [q2]; exact h6) q1 q3 (by rw [hsl]; exact k2_hasslot (q4 k hk)) rfl rfl hdg fun H' e1 e2 e3 => ?_
    rw [hsl] at e1 ⊢
    exact kk H' _ ⟨_, hcl, t_OB.to (V := updV (vp_V fs) k v) ⟨_, e1, q2, q3, t_set q4 hap hk v⟩ (fun j _ => vp_updV_set hl v j)⟩ e2 e3 (hS.put e2 e3 hA)
  | true =>
    unfold u_lay at hlay
    rw [if_pos hfin] at hlay
    have hcf : m.cls = cf := by
      obtain ⟨_, _, c', _, _, _, -, -, hf', -, -, -, hown2, -⟩ := Cond.laysFinal_spec hlay
      have e1 : c' = cf := by have := hi.symm.trans hf'; simp at this; exact this.1.symm
      rw [hdecl] at hown2
      rw [← e1]; exact Option.some.inj (hown.symm.trans hown2)
    have h6 := u_fits hfc hkC hkind (Or.inr hlay) hi hd hn hfit
    refine W.putFinK hx hb hown (hts _ hlink) hi2 hst hcf hin (by rw [q2]; exact h6) q1 q3 (by rw [hsl]; exact k2_hasslot (q4 k hk)) rfl rfl hdg fun H' e1 e2 e3 => ?_
    rw [hsl] at e1 ⊢
    exact kk H' _ ⟨_, hcl, t_OB.to (V := updV (vp_V fs) k v) ⟨_, e1, q2, q3, t_set q4 hap hk v⟩ (fun j _ => vp_updV_set hl v j)⟩ e2 e3 (hS.put e2 e3 hA)
theorem i_newa (hC : CIc p s m args meth c cc nL D cA own) (hS : va_S A s.heap H locs) {atype : ArrayType} {cI : ClassId} (harr : Cond.arrayClass (newarray.typeOf atype) ∈ gtb) (hN : s.vm.findClass ("[" ++ (newarray.typeOf atype).toString) = some cI) {n : Int32} {N' : Nat} (hn : ¬ n < 0) (hNn : n.toNatClampNeg = N') (hbytes : N' * componentBytes (newarray.typeOf atype) ≤ 536870912) (hcells : cells + 1 ≤ R.cells) (hslots : slots + N' ≤ R.slots) (hdg : decode cc pc = .ok (.newarray atype, 2))
    (kk : ∀ H1 : Heap, H1[H.size]? = some (arrV cI N' (fun _ => defaultValue (newarray.typeOf atype))) → H1.size = H.size + 1 → (∀ q, q < H.size → H1[q]? = H[q]?) → va_S A s.heap H1 locs → W p l e R s m args below meth c H1 locs (cells + 1) (slots + N') Q (F0 m (pc + 2) ls (.ref H.size :: rest))) : W p l e R s m args below meth c H locs cells slots Q (F0 m pc ls (.int n :: rest)) := by
  obtain ⟨⟨hx, hb, -, -, -⟩, hts, -⟩ := hC
  refine va_newaK hx hb (hts _ harr) rfl hdg rfl hn hNn hbytes hcells hslots rfl fun H1 cI' e1 z1 o1 _ hNm => ?_
  cases hN.symm.trans hNm
  exact kk H1 e1 z1 o1 ⟨Nat.le_trans hS.1 (by omega), fun x h1 h2 => (o1 x (Nat.lt_of_lt_of_le h1 hS.1)).trans (hS.2.1 x h1 h2), hS.2.2⟩
theorem i_new (hC : CIc p s m args meth c cc nL D cA own) (hS : va_S A s.heap H locs) {idx ci N : Nat} {C : String} {T : u_T} (hcl : vwCl[ci]? = some (C, T, N)) (hclink : Cond.classLink own idx C ∈ gtb) (hinst : Cond.instantiable C N ∈ gtb) (hini : Cond.initialized C ∈ gtb) {fs : List Value} (hfs : ∃ ty : Nat → FieldType, (∀ j, j < N → parseFieldDescriptor (T j).2.2.1 = some (ty j)) ∧ ∀ j, j < N → defaultValue (ty j) = vp_V fs j) (hcells : cells + 1 ≤ R.cells) (hslots : slots + N ≤ R.slots) (hdg : decode cc pc = .ok (.new idx, 3))
    (kk : ∀ H1 : Heap, va_at D vwCl (H.size, .inr (ci, fs)) H1 → H1.size = H.size + 1 → (∀ q, q < H.size → H1[q]? = H[q]?) → va_S A s.heap H1 locs → W p l e R s m args below meth c H1 locs (cells + 1) (slots + N) Q (F0 m (pc + 3) ls (.ref H.size :: rest))) : W p l e R s m args below meth c H locs cells slots Q (F0 m pc ls rest) := by
  obtain ⟨⟨hx, hb, -, hown, -⟩, hts, hK⟩ := hC
  obtain ⟨g1, g2, -, g4, g5⟩ := CLK_ok _ _ _ _ hcl
  obtain ⟨ty, hty, hfs⟩ := hfs
  have hKn := hK.1 ci _ hcl
  refine W.newcK hx hb hown (hts _ hclink) (hts _ hinst) (hts _ hini) rfl hdg hcells hslots hKn.2.1 rfl fun H1 kC hkC e1 z1 o1 => ?_
  exact kk H1 ⟨_, hcl, (u_born ty hts g2 hKn hkC e1 hty).to hfs⟩ z1 o1 ⟨Nat.le_trans hS.1 (by omega), fun x h1 h2 => (o1 x (Nat.lt_of_lt_of_le h1 hS.1)).trans (hS.2.1 x h1 h2), hS.2.2⟩
end CT
