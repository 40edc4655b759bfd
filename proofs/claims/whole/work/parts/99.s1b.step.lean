/-! ===== constructors: one step after the other ===== -/
/-- what the tables say besides: arrays over two classes, private constructors of nest mates -/
def exN (U : State) : Prop := va_AO "ClothEnds$Stand" U ∧ va_AO "ClothEnds$Rule" U ∧ ∀ q ∈ nstQ, va_Nw (.methodLinkNest q.1 q.2.1 q.2.2.1 q.2.2.2) U
theorem exN.warm {s U : State} (hW : s.WarmedH U.vm) (h : exN s) : exN U := ⟨h.1.moved hW.alike, h.2.1.moved hW.alike, fun q hq => va_Nw.warmM hW (h.2.2 q hq)⟩
theorem exN.calling {U : State} {g : JFrame} {mk : MethodId} {a : Array Value} (h : exN U) : exN (U.calling g mk a) := ⟨h.1.moved (u := U) (U := U.calling g mk a) (Vm.Alike.refl U.vm), h.2.1.moved (u := U) (U := U.calling g mk a) (Vm.Alike.refl U.vm), fun q hq => va_Nw.same (u := U) (U := U.calling g mk a) rfl rfl (h.2.2 q hq)⟩
abbrev DN : Type := List ((Nat × Nat) × va_E)
def fnL (ad : Nat × Nat → Nat) (cA : Nat → ClassId) (ds : List (Nat × Nat)) : DN := ds.map (fun d => (d, kcell ad cA s0 d))
def CB (D : va_G) (z n o : Nat) (S : Nat → Bool) (done : DN) (H : Heap) : Prop := pos (o, 0) < n ∧ va_at D vwCl (z + pos (o, 0), .inr (cls o, fsK (adZ z) o S)) H ∧ ∀ q ∈ done, va_at D vwCl (z + pos q.1, q.2) H ∧ pos (o, 0) < pos q.1 ∧ pos q.1 < n
theorem CB.grow {D : va_G} {z n o : Nat} {S : Nat → Bool} {done : DN} {H H1 : Heap} (h : CB D z n o S done H) (n1 : Nat) (hn : n ≤ n1) (o1 : ∀ q, q < z + n → H1[q]? = H[q]?) : CB D z n1 o S done H1 :=
  ⟨by have := h.1; omega, h.2.1.kept (o1 _ (by have := h.1; show z + pos (o, 0) < z + n; omega)), fun q hq => ⟨(h.2.2 q hq).1.kept (o1 _ (by have := (h.2.2 q hq).2.2; show z + pos q.1 < z + n; omega)), (h.2.2 q hq).2.1, by have := (h.2.2 q hq).2.2; omega⟩⟩
theorem CB.add {D : va_G} {z n o : Nat} {S : Nat → Bool} {done : DN} {H : Heap} (h : CB D z n o S done H) {x : (Nat × Nat) × va_E} (hx : va_at D vwCl (z + pos x.1, x.2) H) (h1 : pos (o, 0) < pos x.1) (h2 : pos x.1 < n) : CB D z n o S (x :: done) H :=
  ⟨h.1, h.2.1, fun q hq => (List.mem_cons.mp hq).elim (fun z => by rw [z]; exact ⟨hx, h1, h2⟩) (h.2.2 q)⟩
def CPc (D : va_G) (cA : Nat → ClassId) (z o : Nat) (As : List Value) : Array Value → State → Prop := va_Pc (.ref (z + pos (o, 0)) :: As) (fun U => U.heap.size = z + pos (o, 0) + 1 ∧ va_at D vwCl (z + pos (o, 0), .inr (cls o, fsK (adZ z) o (fun _ => false))) U.heap ∧ va_K D vwCl (tysG cA) U ∧ exN U)
def CQc (D : va_G) (cA : Nat → ClassId) (z o cnt : Nat) (ds : List (Nat × Nat)) : Array Value → State → Outcome → State → Prop := va_Qv (fun _ : Unit => True) (fun _ t => t.heap.size = z + pos (o, 0) + 1 + cnt ∧ ∀ d ∈ ds, va_at D vwCl (z + pos d, kcell (adZ z) cA s0 d) t.heap) (fun q => z + pos (o, 0) ≤ q)
/-- a constructor's contract -/
def CM (y : MethodName) (b : ByteArray) (maxL o dd cnt slt : Nat) (ds : List (Nat × Nat)) (As : Nat → List Value) : Prop := ∀ (l : Launch) (D : va_G) (cA : Nat → ClassId) (z : Nat), Met l y (.code y b maxL none :: gtb) (rmI dd cnt slt) (CPc D cA z o (As z)) (CQc D cA z o cnt ds) cnt slt (fun q => z + pos (o, 0) ≤ q)
theorem va_P1 {D : va_G} {q : Nat × va_E} {H : Heap} (h : va_at D vwCl q H) : va_P D vwCl [q] H := fun k x hx => by
  cases k with
  | zero => cases hx; exact h
  | succ k => simp at hx
section CS
variable {p : Program} {l : Launch} {e : Env} {R : Room} {s : State} {m : MethodId} {args : Array Value} {below : List Frame} {meth : Method} {c : Code} {H : Heap} {locs : List Loc} {cells slots : Nat} {Q : State → Prop}
variable {cc : ByteArray} {pc nL : Nat} {ls : Array Slot} {rest : List Value} {D : va_G} {cA : Nat → ClassId} {own : String} {z n o k : Nat} {S : Nat → Bool} {done : DN}
theorem st_put (hC : CIc p s m args meth c cc nL D cA own) (hS : va_S (fun q => z + pos (o, 0) ≤ q) s.heap H locs) (hB : CB D z n o S done H) {idx ci N : Nat} {T : u_T} (hci : cls o = ci) (hcl : vwCl[ci]? = some (own, T, N)) (hk : k < N) (hlink : Cond.fieldLink own idx own (T k).2.1 (T k).2.2.1 ∈ gtb) {ty : FieldType} {v : Value} (hv : fieldV (adZ z) s0 o k = v) (hd : parseFieldDescriptor (T k).2.2.1 = some ty) (hn : narrow ty v = v) (hfit : fits ty v = true) (hdg : decode cc pc = .ok (.putfield idx, 3))
    (kk : ∀ (H1 : Heap) (locs1 : List Loc), CB D z n o (addS S k) done H1 → H1.size = H.size → (∀ q, ¬ q = z + pos (o, 0) → H1[q]? = H[q]?) → va_S (fun q => z + pos (o, 0) ≤ q) s.heap H1 locs1 → W p l e R s m args below meth c H1 locs1 cells slots Q (F0 m (pc + 3) ls rest)) : W p l e R s m args below meth c H locs cells slots Q (F0 m pc ls (v :: .ref (z + pos (o, 0)) :: rest)) := by
  subst hci hv
  have hN := (CLK_ok _ _ _ _ hcl).1
  refine i_put hC hS hcl hk hlink (Nat.le_refl _) hB.2.1 (by rw [fsK_len]; omega) hd hn hfit hdg (fun H1 locs1 a1 z1 o1 hS1 => kk H1 locs1 ⟨hB.1, ?_, fun q hq => ⟨(hB.2.2 q hq).1.kept (o1 _ (by have := (hB.2.2 q hq).2.1; show z + pos q.1 ≠ z + pos (o, 0); omega)), (hB.2.2 q hq).2⟩⟩ z1 (fun q h => o1 q h) hS1)
  rw [fsK_set (by omega)] at a1
  exact a1
theorem st_na (hC : CIc p s m args meth c cc nL D cA own) (hS : va_S (fun q => z + pos (o, 0) ≤ q) s.heap H locs) (hB : CB D z n o S done H) (hz : H.size = z + n) {idx ci N kd N' t0 : Nat} {T : u_T} {atype : ArrayType} {dv : Value} {x : Int32} (hci : cls o = ci) (hcl : vwCl[ci]? = some (own, T, N)) (hk : k < N) (hft : ftab ci k = (kd, N')) (hne : ¬ (o = 34 ∧ k = 41)) (ha : atK kd atype t0 dv (newarray.typeOf atype)) (hp : pos (o, k + 1) = n) (harr : Cond.arrayClass (newarray.typeOf atype) ∈ gtb) (hlink : Cond.fieldLink own idx own (T k).2.1 (T k).2.2.1 ∈ gtb) (hd : parseFieldDescriptor (T k).2.2.1 = some (.array (newarray.typeOf atype))) (hn : ¬ x < 0) (hNn : x.toNatClampNeg = N') (hbytes : N' * componentBytes (newarray.typeOf atype) ≤ 536870912) (hcells : cells + 1 ≤ R.cells) (hslots : slots + N' ≤ R.slots) (hdg : decode cc pc = .ok (.newarray atype, 2)) (hdg2 : decode cc (pc + 2) = .ok (.putfield idx, 3))
    (kk : ∀ (H1 : Heap) (locs1 : List Loc), CB D z (n + 1) o (addS S k) (((o, k + 1), kcell (adZ z) cA s0 (o, k + 1)) :: done) H1 → H1.size = z + (n + 1) → (∀ q, q < z + n → ¬ q = z + pos (o, 0) → H1[q]? = H[q]?) → va_S (fun q => z + pos (o, 0) ≤ q) s.heap H1 locs1 → W p l e R s m args below meth c H1 locs1 (cells + 1) (slots + N') Q (F0 m (pc + 5) ls rest)) : W p l e R s m args below meth c H locs cells slots Q (F0 m pc ls (.int x :: .ref (z + pos (o, 0)) :: rest)) := by
  have hft2 : ftab (cls o) k = (kd, N') := by rw [hci]; exact hft
  have hdv : defaultValue (newarray.typeOf atype) = dv := by
    rcases ha with ⟨-, h, -, h2, -⟩ | ⟨-, h, -, h2, -⟩ | ⟨-, h, -, h2, -⟩ | ⟨-, h, -, h2, -⟩ <;> subst h h2 <;> rfl
  have hN : s.vm.findClass ("[" ++ (newarray.typeOf atype).toString) = some (cA t0) := by
    rcases ha with ⟨-, h, h2, -, -⟩ | ⟨-, h, h2, -, -⟩ | ⟨-, h, h2, -, -⟩ | ⟨-, h, h2, -, -⟩ <;> subst h h2
    · exact (hC.2.2.2 0 (cA 0, .int) rfl).2
    · exact (hC.2.2.2 1 (cA 1, .long) rfl).2
    · exact (hC.2.2.2 2 (cA 2, .boolean) rfl).2
    · exact (hC.2.2.2 3 (cA 3, .byte) rfl).2
  refine i_newa hC hS harr hN hn hNn hbytes hcells hslots hdg (fun H1 e1 z1 o1 hS1 => ?_)
  rw [hdv, hz] at e1
  have hcell := arr_cell (D := D) (cA := cA) (ad := adZ z) hft2 hne ha e1
  have B1 : CB D z (n + 1) o S (((o, k + 1), kcell (adZ z) cA s0 (o, k + 1)) :: done) H1 := by
    refine (hB.grow (n + 1) (by omega) (fun q hq => o1 q (by omega))).add (x := ((o, k + 1), kcell (adZ z) cA s0 (o, k + 1))) (by rw [show z + pos ((o, k + 1), kcell (adZ z) cA s0 (o, k + 1)).1 = z + n by rw [hp]]; exact hcell) ?_ ?_
    · show pos (o, 0) < pos (o, k + 1)
      rw [hp]; exact hB.1
    · show pos (o, k + 1) < n + 1
      omega
  have hv : fieldV (adZ z) s0 o k = .ref H.size := by
    rw [fieldV_arr (adZ z) s0 (by rw [hft2]; rcases ha with ⟨h, -⟩ | ⟨h, -⟩ | ⟨h, -⟩ | ⟨h, -⟩ <;> subst h <;> rfl), hz, ← hp]
    rfl
  exact st_put hC hS1 B1 hci hcl hk hlink hv hd rfl rfl hdg2 (fun H2 locs2 B2 z2 f2 hS2 => kk H2 locs2 B2 (by omega) (fun q hq hq2 => (f2 q hq2).trans (o1 q (by omega))) hS2)
theorem dv_all : ∀ (ci : Nat) (C : String) (T : u_T) (N : Nat), vwCl[ci]? = some (C, T, N) → ∃ ty : Nat → FieldType, (∀ j, j < N → parseFieldDescriptor (T j).2.2.1 = some (ty j)) ∧ ∀ j, j < N → defaultValue (ty j) = dvF (ftab ci j).1 := by
  intro ci C T N h
  match ci, h with
  | 0, h => cases h; exact ⟨tyX0, tyX0_ok, by decide +kernel⟩
  | 1, h => cases h; exact ⟨tyX1, tyX1_ok, by decide +kernel⟩
  | 2, h => cases h; exact ⟨tyX2, tyX2_ok, by decide +kernel⟩
  | 3, h => cases h; exact ⟨tyX3, tyX3_ok, by decide +kernel⟩
  | 4, h => cases h; exact ⟨tyX4, tyX4_ok, by decide +kernel⟩
  | 5, h => cases h; exact ⟨tyX5, tyX5_ok, by decide +kernel⟩
  | 6, h => cases h; exact ⟨tyX6, tyX6_ok, by decide +kernel⟩
  | 7, h => cases h; exact ⟨tyX7, tyX7_ok, by decide +kernel⟩
  | 8, h => cases h; exact ⟨tyX8, tyX8_ok, by decide +kernel⟩
  | 9, h => cases h; exact ⟨tyX9, tyX9_ok, by decide +kernel⟩
  | 10, h => cases h; exact ⟨tyX10, tyX10_ok, by decide +kernel⟩
  | 11, h => cases h; exact ⟨tyX11, tyX11_ok, by decide +kernel⟩
  | 12, h => cases h; exact ⟨tyX12, tyX12_ok, by decide +kernel⟩
  | n + 13, h => simp [vwCl] at h
theorem fsK_0 {ad : Nat × Nat → Nat} {o j : Nat} (hj : j < nF (cls o)) : vp_V (fsK ad o (fun _ => false)) j = dvF (ftab (cls o) j).1 := by
  unfold vp_V fsK
  rw [List.getD_eq_getElem?_getD, List.getElem?_map, List.getElem?_range hj]
  show fvK ad o (fun _ => false) j = _
  unfold fvK
  exact if_neg (show ¬ (false : Bool) = true by decide)
theorem st_new (hC : CIc p s m args meth c cc nL D cA own) {A : Nat → Prop} (hS : va_S A s.heap H locs) (hz : H.size = z + n) {idx o' ci N : Nat} {C : String} {T : u_T} (hci : cls o' = ci) (hcl : vwCl[ci]? = some (C, T, N)) (hp : pos (o', 0) = n) (hclink : Cond.classLink own idx C ∈ gtb) (hinst : Cond.instantiable C N ∈ gtb) (hini : Cond.initialized C ∈ gtb) (hcells : cells + 1 ≤ R.cells) (hslots : slots + N ≤ R.slots) (hdg : decode cc pc = .ok (.new idx, 3))
    (kk : ∀ H1 : Heap, va_at D vwCl (z + pos (o', 0), .inr (cls o', fsK (adZ z) o' (fun _ => false))) H1 → H1.size = z + (n + 1) → (∀ q, q < z + n → H1[q]? = H[q]?) → va_S A s.heap H1 locs → W p l e R s m args below meth c H1 locs (cells + 1) (slots + N) Q (F0 m (pc + 3) ls (.ref (z + pos (o', 0)) :: rest))) : W p l e R s m args below meth c H locs cells slots Q (F0 m pc ls rest) := by
  subst hci
  have hN := (CLK_ok _ _ _ _ hcl).1
  obtain ⟨ty, t1, t2⟩ := dv_all _ _ _ _ hcl
  refine i_new hC hS hcl hclink hinst hini (fs := fsK (adZ z) o' (fun _ => false)) ⟨ty, t1, fun j hj => by rw [t2 j hj, fsK_0 (by omega)]⟩ hcells hslots hdg (fun H1 a1 z1 o1 hS1 => ?_)
  have e : H.size = z + pos (o', 0) := by omega
  rw [e] at a1 z1 o1
  have := kk H1 a1 (by omega) (fun q hq => o1 q (by omega)) hS1
  rw [e]
  exact this
theorem st_after {A : Nat → Prop} (hS : va_S A s.heap H locs) (hz : H.size = z + (n + 1)) {o' cnt slt : Nat} {ds : List (Nat × Nat)} {a : Array Value} {st0 : List Value} (hp : pos (o', 0) = n) (hA : ∀ q, z + pos (o', 0) ≤ q → A q) (hr : va_Run p l e R s m args below meth c H locs cells slots cnt slt (F0 m pc ls st0) rest (CQc D cA z o' cnt ds a) (fun q => z + pos (o', 0) ≤ q))
    (kk : ∀ (H1 : Heap) (locs1 : List Loc), (∀ d ∈ ds, va_at D vwCl (z + pos d, kcell (adZ z) cA s0 d) H1) → H1.size = z + (n + 1 + cnt) → (∀ q, q < z + n → H1[q]? = H[q]?) → va_S A s.heap H1 locs1 → W p l e R s m args below meth c H1 locs1 (cells + cnt) (slots + slt) Q (F0 m (pc + 3) ls rest)) : W p l e R s m args below meth c H locs cells slots Q (F0 m pc ls st0) := by
  refine va_callv (A1 := fun q => z + pos (o', 0) ≤ q) (A0 := A) hr hS (fun q _ h => hA q h) (fun q h => hA q h) (fun u t H1 locs1 ht hvm _ hB hz1 hk1 hS1 => ?_)
  obtain ⟨b1, b2⟩ := hB
  rw [ht] at b1 b2
  exact kk H1 locs1 b2 (by omega) (fun q hq => hk1 q (by omega) (by omega)) hS1
theorem st_pre (hK : va_K D vwCl (tysG cA) s) (hex : exN s) (hz : H.size = z + (n + 1)) {o' : Nat} {As : List Value} (hp : pos (o', 0) = n) (he : va_at D vwCl (z + pos (o', 0), .inr (cls o', fsK (adZ z) o' (fun _ => false))) H) : PreS s H (CPc D cA z o' As) (.ref (z + pos (o', 0)) :: As) := by
  refine ⟨fun a U g mk q => ?_, fun U hU hW => ?_⟩
  · obtain ⟨q0, q1, q2, qK, q4⟩ := q
    exact ⟨q0, q1, q2, va_K.moved (u := U) (U := U.calling g mk a) (Vm.Alike.refl U.vm) qK, q4.calling⟩
  · exact ⟨rfl, by rw [hU]; omega, by rw [hU]; exact he, va_K.moved hW.alike hK, hex.warm hW⟩
theorem st_call (hC : CIc p s m args meth c cc nL D cA own) {A : Nat → Prop} (hS : va_S A s.heap H locs) (hex : exN s) (hz : H.size = z + (n + 1)) {idx o' maxL dd cnt slt np : Nat} {y : MethodName} {b : ByteArray} {ds : List (Nat × Nat)} {As : Nat → List Value} (hp : pos (o', 0) = n) (hA : ∀ q, z + pos (o', 0) ≤ q → A q) (he : va_at D vwCl (z + pos (o', 0), .inr (cls o', fsK (adZ z) o' (fun _ => false))) H) (hM : CM y b maxL o' dd cnt slt ds As) (hcode : Cond.code y b maxL none ∈ gtb) (hini : Cond.initialized y.cls ∈ gtb) (hlink : Cond.methodLink own idx y ∈ gtb) (hinst : Cond.instanceMethod y ∈ gtb) (hname : y.name = "<init>") (hcls : y.cls ≠ "java/lang/invoke/MethodHandle" ∧ y.cls ≠ "java/lang/invoke/VarHandle" ∧ (parseMethodDescriptor y.desc).map (fun d => d.parameters.length) = some np) (hnp : (As z).length = np) (hR : dd + 1 ≤ R.frames ∧ 8 + (maxL + 11) + 40 * dd ≤ R.locals) (hsize : ls.size = nL) (hW : (rest.map fun v => v.category).sum ≤ 8) (hcells : cells + cnt ≤ R.cells) (hslots : slots + slt ≤ R.slots) (hdg : decode cc pc = .ok (.invokespecial idx, 3))
    (kk : ∀ (H1 : Heap) (locs1 : List Loc), (∀ d ∈ ds, va_at D vwCl (z + pos d, kcell (adZ z) cA s0 d) H1) → H1.size = z + (n + 1 + cnt) → (∀ q, q < z + n → H1[q]? = H[q]?) → va_S A s.heap H1 locs1 → W p l e R s m args below meth c H1 locs1 (cells + cnt) (slots + slt) Q (F0 m (pc + 3) ls rest)) : W p l e R s m args below meth c H locs cells slots Q (F0 m pc ls ((As z).reverse ++ .ref (z + pos (o', 0)) :: rest)) := by
  obtain ⟨⟨hx, hb, hml, hown, -⟩, hts, hK⟩ := hC
  have hG : GoodIn gtb (.code y b maxL none :: gtb) := goodIn_all (fun w hw => (List.mem_cons.mp hw).elim (fun q => by rw [q]; exact hcode) id)
  exact st_after hS hz hp hA (va_runI (As := As z) (rest := rest) ⟨hx, hb, hml, hown, hts⟩ (hM l D cA z) (cwI np hts hG rfl rfl rfl (hts _ hini) (hts _ hlink) (hts _ hinst) hname hcls hR) (st_pre hK hex hz hp he) rfl hnp hsize rfl (lv_room hW) hdg ⟨hcells, hslots⟩) kk
/-- the same, of a nest mate's private constructor -/
theorem st_callN (hC : CIc p s m args meth c cc nL D cA own) {A : Nat → Prop} (hS : va_S A s.heap H locs) (hex : exN s) (hz : H.size = z + (n + 1)) {idx o' maxL dd cnt slt np : Nat} {y : MethodName} {b : ByteArray} {ds : List (Nat × Nat)} {As : Nat → List Value} {host : String} (hp : pos (o', 0) = n) (hA : ∀ q, z + pos (o', 0) ≤ q → A q) (he : va_at D vwCl (z + pos (o', 0), .inr (cls o', fsK (adZ z) o' (fun _ => false))) H) (hM : CM y b maxL o' dd cnt slt ds As) (hcode : Cond.code y b maxL none ∈ gtb) (hini : Cond.initialized y.cls ∈ gtb) (hlink : (own, idx, y, host) ∈ nstQ) (hinst : Cond.instanceMethod y ∈ gtb) (hname : y.name = "<init>") (hcls : y.cls ≠ "java/lang/invoke/MethodHandle" ∧ y.cls ≠ "java/lang/invoke/VarHandle" ∧ (parseMethodDescriptor y.desc).map (fun d => d.parameters.length) = some np) (hnp : (As z).length = np) (hR : dd + 1 ≤ R.frames ∧ 8 + (maxL + 11) + 40 * dd ≤ R.locals) (hsize : ls.size = nL) (hW : (rest.map fun v => v.category).sum ≤ 8) (hcells : cells + cnt ≤ R.cells) (hslots : slots + slt ≤ R.slots) (hdg : decode cc pc = .ok (.invokespecial idx, 3))
    (kk : ∀ (H1 : Heap) (locs1 : List Loc), (∀ d ∈ ds, va_at D vwCl (z + pos d, kcell (adZ z) cA s0 d) H1) → H1.size = z + (n + 1 + cnt) → (∀ q, q < z + n → H1[q]? = H[q]?) → va_S A s.heap H1 locs1 → W p l e R s m args below meth c H1 locs1 (cells + cnt) (slots + slt) Q (F0 m (pc + 3) ls rest)) : W p l e R s m args below meth c H locs cells slots Q (F0 m pc ls ((As z).reverse ++ .ref (z + pos (o', 0)) :: rest)) := by
  obtain ⟨⟨hx, hb, hml, hown, -⟩, hts, hK⟩ := hC
  have hG : GoodIn gtb (.code y b maxL none :: gtb) := goodIn_all (fun w hw => (List.mem_cons.mp hw).elim (fun q => by rw [q]; exact hcode) id)
  exact st_after hS hz hp hA (va_runIN (As := As z) (rest := rest) ⟨hx, hb, hml, hown, hts⟩ (hM l D cA z) ⟨va_cnB np hts hG rfl rfl rfl (hex.2.2 _ hlink) (hts _ hini) hcls hR, hname, hts _ hinst⟩ (st_pre hK hex hz hp he) rfl hnp hsize rfl (lv_room hW) hdg ⟨hcells, hslots⟩) kk
/-- what a callee made stands beside the rest -/
theorem CB.addL {H : Heap} {ds ds0 : List (Nat × Nat)} (h : CB D z n o S (fnL (adZ z) cA ds0) H) (hds : ∀ d ∈ ds, va_at D vwCl (z + pos d, kcell (adZ z) cA s0 d) H) (hb : ∀ d ∈ ds, pos (o, 0) < pos d ∧ pos d < n) : CB D z n o S (fnL (adZ z) cA (ds ++ ds0)) H := by
  refine ⟨h.1, h.2.1, fun q hq => ?_⟩
  unfold fnL at hq
  rw [List.map_append] at hq
  rcases List.mem_append.mp hq with w | w
  · obtain ⟨d, h1, h2⟩ := List.mem_map.mp w
    subst h2
    exact ⟨hds d h1, hb d h1⟩
  · exact h.2.2 q w
theorem st_get (hC : CIc p s m args meth c cc nL D cA own) (hB : CB D z n o S done H) {idx ci N j : Nat} {T : u_T} (hci : cls o = ci) (hcl : vwCl[ci]? = some (own, T, N)) (hj : j < N) (hjk : S j = true) (hlink : Cond.fieldLink own idx own (T j).2.1 (T j).2.2.1 ∈ gtb) {v : Value} (hv : fieldV (adZ z) s0 o j = v) (hdg : decode cc pc = .ok (.getfield idx, 3))
    (kk : W p l e R s m args below meth c H locs cells slots Q (F0 m (pc + 3) ls (v :: rest))) : W p l e R s m args below meth c H locs cells slots Q (F0 m pc ls (.ref (z + pos (o, 0)) :: rest)) := by
  subst hci
  obtain ⟨⟨hx, hb, -, hown, -⟩, hts, hK⟩ := hC
  obtain ⟨g1, g2, -, -, g5⟩ := CLK_ok _ _ _ _ hcl
  refine va_get (D := D) (ci := cls o) (C := own) hx hb hts g2 hown hK (va_P1 hB.2.1) 0 rfl hcl j hj (hts _ hlink) (fun x h => by rw [← (g5 j hj).1]; exact h) ?_ hdg kk
  unfold fsK
  rw [List.getElem?_map, List.getElem?_range (by omega)]
  show some (fvK (adZ z) o S j) = some v
  unfold fvK
  rw [if_pos hjk, hv]
theorem i_anew (hC : CIc p s m args meth c cc nL D cA own) {A : Nat → Prop} (hS : va_S A s.heap H locs) {idx N' : Nat} {C : String} {cI : ClassId} {x : Int32} (hclink : Cond.classLink own idx C ∈ gtb) (hover : va_AO C s) (hN : s.vm.findClass ("[" ++ (FieldType.object C).toString) = some cI) (hn : ¬ x < 0) (hNn : x.toNatClampNeg = N') (hbytes : N' * 4 ≤ 536870912) (hcells : cells + 1 ≤ R.cells) (hslots : slots + N' ≤ R.slots) (hdg : decode cc pc = .ok (.anewarray idx, 3))
    (kk : ∀ H1 : Heap, H1[H.size]? = some (arrV cI N' (fun _ => .null)) → H1.size = H.size + 1 → (∀ q, q < H.size → H1[q]? = H[q]?) → va_S A s.heap H1 locs → W p l e R s m args below meth c H1 locs (cells + 1) (slots + N') Q (F0 m (pc + 3) ls (.ref H.size :: rest))) : W p l e R s m args below meth c H locs cells slots Q (F0 m pc ls (.int x :: rest)) := by
  obtain ⟨⟨hx, hb, -, hown, -⟩, hts, -⟩ := hC
  subst hNn
  refine W.anew hx hb hown (hts _ hclink) (va_AO.use hover) rfl hdg rfl hn hbytes hcells hslots fun cA' kA comp f1 _ _ _ => ?_
  cases hN.symm.trans f1
  generalize hH1 : H.push ({ cls := cI, slots := Array.replicate x.toNatClampNeg .null, vm := .none } : Cell) = H1
  have z1 : H1.size = H.size + 1 := by rw [← hH1, Array.size_push]
  have e1 : H1[H.size]? = some (arrV cI x.toNatClampNeg (fun _ => .null)) := by rw [← hH1, Array.getElem?_push_size, ← arrV_new]
  have o1 : ∀ q : Nat, q < H.size → H1[q]? = H[q]? := fun q hq => by rw [← hH1, Array.getElem?_push, if_neg (Nat.ne_of_lt hq)]
  exact kk H1 e1 z1 o1 ⟨Nat.le_trans hS.1 (by omega), fun x h1 h2 => (o1 x (Nat.lt_of_lt_of_le h1 hS.1)).trans (hS.2.1 x h1 h2), hS.2.2⟩
theorem CB.other {H H1 : Heap} {ds : List (Nat × Nat)} (h : CB D z n o S (fnL (adZ z) cA ds) H) {a' : Nat} (hne : ¬ pos (o, 0) = a') (hd : ∀ d ∈ ds, ¬ pos d = a') (f : ∀ q, ¬ q = z + a' → H1[q]? = H[q]?) : CB D z n o S (fnL (adZ z) cA ds) H1 := by
  refine ⟨h.1, h.2.1.kept (f _ (by show ¬ z + pos (o, 0) = z + a'; omega)), fun q hq => ⟨(h.2.2 q hq).1.kept (f _ ?_), (h.2.2 q hq).2⟩⟩
  obtain ⟨d, h1, h2⟩ := List.mem_map.mp hq
  subst h2
  have := hd d h1
  show ¬ z + pos d = z + a'
  omega
theorem i_aast (hC : CIc p s m args meth c cc nL D cA own) {A : Nat → Prop} (hS : va_S A s.heap H locs) {a v t0 ci n' i' : Nat} {cI : ClassId} {r : vw_C} {vs : List Value} {f : Nat → Option Nat} (hA : A a) (ha : va_at D vwCl (a, .inl (cI, n', .inr (.inr (.inr (.inr f))))) H) (ht : (tysG cA)[t0]? = some (cI, .object r.1)) (hv : va_at D vwCl (v, .inr (ci, vs)) H) (hc : vwCl[ci]? = some r) {i : Int32} (hin : vp_in i n') (hi : i.toNatClampNeg = i') (hdg : decode cc pc = .ok (.aastore, 1))
    (kk : ∀ (H1 : Heap) (locs1 : List Loc), va_at D vwCl (a, .inl (cI, n', .inr (.inr (.inr (.inr (va_up f i' (some v))))))) H1 → H1.size = H.size → (∀ q, ¬ q = a → H1[q]? = H[q]?) → va_S A s.heap H1 locs1 → W p l e R s m args below meth c H1 locs1 cells slots Q (F0 m (pc + 1) ls rest)) : W p l e R s m args below meth c H locs cells slots Q (F0 m pc ls (.ref v :: .int i :: .ref a :: rest)) := by
  subst hi
  obtain ⟨⟨hx, hb, -, -, -⟩, hts, hK⟩ := hC
  have hlt : i.toNatClampNeg < n' := Nat.not_le.mp fun q => hin (Or.inr q)
  have h0 : ¬ i < 0 := fun q => hin (Or.inl q)
  obtain ⟨r', hr', cellV, g1, g2, g3, -⟩ := hv
  have hcls := (hK.1 ci r hc).2
  obtain ⟨kA, comp, k1, k2, k3, -⟩ := (hK.2 t0 _ ht).2
  have hcomp : comp = D.1 ci := Option.some.inj (k3.symm.trans hcls.1)
  subst hcomp
  obtain ⟨kC, hkC, -⟩ := hcls.2
  refine W.aast hx hb ha (fun q h => by cases h) (fun h => by cases h) k1 k2 rfl hkC ⟨h0, by show _ < (arrV _ _ _).slots.size; rw [arrV_size]; exact hlt⟩ g1 (fun q h => by rw [g3] at h; cases h) (by rw [g2]; exact hkC) (by rw [g2]; exact va_assign hcls) rfl rfl hdg fun H1 e zz oq => ?_
  refine kk H1 _ ?_ zz (fun q h => oq q h) (hS.put zz oq hA)
  show H1[a]? = some (vp_cell _ _)
  rw [e]
  rw [vp_cell_q, vp_cell_q, arrV_store]
  congr 2
  funext q
  by_cases hq : q = i.toNatClampNeg
  · subst hq
    simp [updV, va_up, va_rf]
  · simp [updV, va_up, hq]
end CS
