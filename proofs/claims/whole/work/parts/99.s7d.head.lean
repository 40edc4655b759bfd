/-! ===== the law's first rows: both objects ===== -/
theorem dom_both : ∀ d ∈ domL, d ∈ ds_11 0 ∨ d ∈ ds_12 34 := by decide +kernel
theorem dom_pos : (domL.map pos).Nodup := by decide +kernel
theorem D_start (z : Nat) (cA : Nat → ClassId) (τ : Mem) : va_D (fun q => z ≤ q) (wlst (adZ z) cA τ) := by
  unfold wlst
  refine ⟨fun i j p q hi hj h => ?_, fun k q hk => ?_⟩
  · rw [List.getElem?_map] at hi hj
    obtain ⟨d, h1, h2⟩ := Option.map_eq_some_iff.mp hi
    obtain ⟨d', h3, h4⟩ := Option.map_eq_some_iff.mp hj
    subst h2 h4
    have e : pos d = pos d' := by
      have : z + pos d = z + pos d' := h
      omega
    have hi' : (domL.map pos)[i]? = some (pos d) := by rw [List.getElem?_map, h1]; rfl
    have hj' : (domL.map pos)[j]? = some (pos d) := by rw [List.getElem?_map, h3, e]; rfl
    obtain ⟨l1, g1⟩ := List.getElem?_eq_some_iff.mp hi'
    obtain ⟨l2, g2⟩ := List.getElem?_eq_some_iff.mp hj'
    have hp := List.pairwise_iff_getElem.mp dom_pos
    rcases Nat.lt_trichotomy i j with h0 | h0 | h0
    · exact absurd (g1.trans g2.symm) (hp i j l1 l2 h0)
    · exact h0
    · exact absurd (g2.trans g1.symm) (hp j i l2 l1 h0)
  · rw [List.getElem?_map] at hk
    obtain ⟨d, h1, h2⟩ := Option.map_eq_some_iff.mp hk
    subst h2
    exact Nat.le_add_right z (pos d)
section LH
variable {p : Program} {l : Launch} {e : Env} {R : Room} {s : State} {m : MethodId} {args : Array Value} {below : List Frame} {meth : Method} {c : Code} {H : Heap} {locs : List Loc} {cells slots : Nat} {Q : State → Prop}
variable {cc : ByteArray} {pc nL : Nat} {ls : Array Slot} {rest : List Value} {D : va_G} {cA : Nat → ClassId} {own : String} {z n : Nat}
theorem l_new (hx : p.tables.exec = Jvm.exec) (hb : c.code = cc) (hown : s.vm.findClass own = some m.cls) (hts : ∀ w ∈ gtb, w.before args s = true) (hK : va_K D vwCl (tysG cA) s) {A : Nat → Prop} (hS : va_S A s.heap H locs) (hz : H.size = z + n) {idx o' ci N : Nat} {C : String} {T : u_T} (hci : cls o' = ci) (hcl : vwCl[ci]? = some (C, T, N)) (hp : pos (o', 0) = n) (hclink : Cond.classLink own idx C ∈ gtb) (hinst : Cond.instantiable C N ∈ gtb) (hini : Cond.initialized C ∈ gtb) (hcells : cells + 1 ≤ R.cells) (hslots : slots + N ≤ R.slots) (hdg : decode cc pc = .ok (.new idx, 3))
    (kk : ∀ H1 : Heap, va_at D vwCl (z + pos (o', 0), .inr (cls o', fsK (adZ z) o' (fun _ => false))) H1 → H1.size = z + (n + 1) → (∀ q, q < z + n → H1[q]? = H[q]?) → va_S A s.heap H1 locs → W p l e R s m args below meth c H1 locs (cells + 1) (slots + N) Q (F0 m (pc + 3) ls (.ref (z + pos (o', 0)) :: rest))) : W p l e R s m args below meth c H locs cells slots Q (F0 m pc ls rest) := by
  subst hci
  obtain ⟨g1, g2, -, g4, g5⟩ := CLK_ok _ _ _ _ hcl
  obtain ⟨ty, t1, t2⟩ := dv_all _ _ _ _ hcl
  have hKn := hK.1 _ _ hcl
  have eh : H.size = z + pos (o', 0) := by omega
  refine W.newcK hx hb hown (hts _ hclink) (hts _ hinst) (hts _ hini) rfl hdg hcells hslots hKn.2.1 rfl fun H1 kC hkC e1 z1 o1 => ?_
  have a1 : va_at D vwCl (H.size, .inr (cls o', fsK (adZ z) o' (fun _ => false))) H1 := ⟨_, hcl, (u_born ty hts g2 hKn hkC e1 t1).to (fun j hj => by rw [t2 j hj, fsK_0 (by omega)])⟩
  have hS1 : va_S A s.heap H1 locs := ⟨Nat.le_trans hS.1 (by omega), fun x h1 h2 => (o1 x (Nat.lt_of_lt_of_le h1 hS.1)).trans (hS.2.1 x h1 h2), hS.2.2⟩
  rw [eh] at a1 z1 o1
  have := kk H1 a1 (by omega) (fun q hq => o1 q (by omega)) hS1
  rw [eh]
  exact this
theorem l_call (hx : p.tables.exec = Jvm.exec) (hb : c.code = cc) (hml : c.maxLocals = nL) (hown : s.vm.findClass own = some m.cls) (hts : ∀ w ∈ gtb, w.before args s = true) (hK : va_K D vwCl (tysG cA) s) {A : Nat → Prop} (hS : va_S A s.heap H locs) (hex : exN s) (hz : H.size = z + (n + 1)) {idx o' maxL dd cnt slt np : Nat} {y : MethodName} {b : ByteArray} {ds : List (Nat × Nat)} {As : Nat → List Value} (hp : pos (o', 0) = n) (hA : ∀ q, z + pos (o', 0) ≤ q → A q) (he : va_at D vwCl (z + pos (o', 0), .inr (cls o', fsK (adZ z) o' (fun _ => false))) H) (hM : CM y b maxL o' dd cnt slt ds As) (hcode : Cond.code y b maxL none ∈ gtb) (hini : Cond.initialized y.cls ∈ gtb) (hlink : Cond.methodLink own idx y ∈ gtb) (hinst : Cond.instanceMethod y ∈ gtb) (hname : y.name = "<init>") (hcls : y.cls ≠ "java/lang/invoke/MethodHandle" ∧ y.cls ≠ "java/lang/invoke/VarHandle" ∧ (parseMethodDescriptor y.desc).map (fun d => d.parameters.length) = some np) (hnp : (As z).length = np) (hR : dd + 1 ≤ R.frames ∧ 8 + (maxL + 11) + 40 * dd ≤ R.locals) (hsize : ls.size = nL) (hW : (rest.map fun v => v.category).sum ≤ 8) (hcells : cells + cnt ≤ R.cells) (hslots : slots + slt ≤ R.slots) (hdg : decode cc pc = .ok (.invokespecial idx, 3))
    (kk : ∀ (H1 : Heap) (locs1 : List Loc), (∀ d ∈ ds, va_at D vwCl (z + pos d, kcell (adZ z) cA s0 d) H1) → H1.size = z + (n + 1 + cnt) → (∀ q, q < z + n → H1[q]? = H[q]?) → va_S A s.heap H1 locs1 → W p l e R s m args below meth c H1 locs1 (cells + cnt) (slots + slt) Q (F0 m (pc + 3) ls rest)) : W p l e R s m args below meth c H locs cells slots Q (F0 m pc ls ((As z).reverse ++ .ref (z + pos (o', 0)) :: rest)) := by
  have hG : GoodIn gtb (.code y b maxL none :: gtb) := goodIn_all (fun w hw => (List.mem_cons.mp hw).elim (fun q => by rw [q]; exact hcode) id)
  exact st_after hS hz hp hA (va_runI (As := As z) (rest := rest) ⟨hx, hb, hml, hown, hts⟩ (hM l D cA z) (cwI np hts hG rfl rfl rfl (hts _ hini) (hts _ hlink) (hts _ hinst) hname hcls hR) (st_pre hK hex hz hp he) rfl hnp hsize rfl (lv_room hW) hdg ⟨hcells, hslots⟩) kk
set_option maxHeartbeats 4000000 in
theorem law_head {b : Nat} (hx : p.tables.exec = Jvm.exec) (hb : c.code = cL_law) (hml : c.maxLocals = 4) (hown : s.vm.findClass RL = some m.cls) (hts : ∀ w ∈ gtb, w.before args s = true) (hK : va_K D vwCl (tysG cA) s) (hex : exN s) (hR : 275 ≤ R.cells ∧ 160292 ≤ R.slots ∧ 4 ≤ R.frames ∧ 200 ≤ R.locals) (hl : lv_has ls 4 [(0, .ref b)])
    (kk : ∀ (H1 : Heap) (locs1 : List Loc) (ls1 : Array Slot), va_P D vwCl (wlst (adZ s.heap.size) cA s0) H1 → va_S (fun q => s.heap.size ≤ q) s.heap H1 locs1 → lv_has ls1 4 [(0, .ref b), (1, .ref (adZ s.heap.size (0, 0))), (2, .ref (adZ s.heap.size (34, 0))), (3, .int 0)] → W p l e R s m args below meth c H1 locs1 275 160292 Q (F0 m 18 ls1 [])) : W p l e R s m args below meth c s.heap [] 0 0 Q (F0 m 0 ls []) := by
  obtain ⟨r1, r2, r3, r4⟩ := hR
  have p0 : pos (0, 0) = 0 := by decide +kernel
  have p1 : pos (34, 0) = 218 := by decide +kernel
  refine l_new hx hb hown hts hK (A := fun q => s.heap.size ≤ q) (locs := []) va_S.rf (z := s.heap.size) (n := 0) rfl (idx := 7) (o' := 0) (ci := 11) (N := 14) (C := RX11) (T := TX11) rfl rfl p0 (gk_1 20 rfl rfl) (gk_1 21 rfl rfl) (gk_1 1 rfl rfl) (by omega) (by omega) (show decode cL_law 0 = .ok (.new 7, 3) by decide +kernel) (fun H1 he1 hz1 o1 hS1 => ?_)
  refine lv_dup hx hb (show decode cL_law 3 = .ok (.dup, 1) by decide +kernel) rfl ?_
  refine l_call hx hb hml hown hts hK hS1 hex hz1 (idx := 9) (o' := 0) (As := fun _ => []) (rest := [.ref (s.heap.size + pos (0, 0))]) (np := 0) p0 (fun q h => by omega) he1 c_ce (gk_1 24 rfl rfl) (gk_1 1 rfl rfl) (gk_1 22 rfl rfl) (gk_1 23 rfl rfl) rfl ⟨by decide, by decide, by decide +kernel⟩ rfl ⟨by omega, by omega⟩ hl.1 (Nat.le_of_ble_eq_true rfl) (by omega) (by omega) (show decode cL_law 4 = .ok (.invokespecial 9, 3) by decide +kernel) (fun H2 locs2 hds hz2 hF2 hS2 => ?_)
  clear he1 hz1 o1 hS1 hF2
  refine lv_astore_n (lv' := [(1, .ref (s.heap.size + pos (0, 0))), (0, .ref b)]) hx hb (show decode cL_law 7 = .ok (.astore_n 1, 1) by decide +kernel) rfl hl (by decide) rfl (fun ls1 hl1 => ?_)
  clear hl
  refine l_new hx hb hown hts hK hS2 (z := s.heap.size) (n := 218) (by omega) (idx := 10) (o' := 34) (ci := 12) (N := 71) (C := RX12) (T := TX12) rfl rfl p1 (gk_5 151 rfl rfl) (gk_5 152 rfl rfl) (gk_1 13 rfl rfl) (by omega) (by omega) (show decode cL_law 8 = .ok (.new 10, 3) by decide +kernel) (fun H3 he3 hz3 o3 hS3 => ?_)
  clear hz2 hS2
  refine lv_dup hx hb (show decode cL_law 11 = .ok (.dup, 1) by decide +kernel) rfl ?_
  refine l_call hx hb hml hown hts hK hS3 hex hz3 (idx := 12) (o' := 34) (As := fun _ => []) (rest := [.ref (s.heap.size + pos (34, 0))]) (np := 0) p1 (fun q h => by omega) he3 c_md (gk_5 155 rfl rfl) (gk_1 13 rfl rfl) (gk_5 153 rfl rfl) (gk_5 154 rfl rfl) rfl ⟨by decide, by decide, by decide +kernel⟩ rfl ⟨by omega, by omega⟩ hl1.1 (Nat.le_of_ble_eq_true rfl) (by omega) (by omega) (show decode cL_law 12 = .ok (.invokespecial 12, 3) by decide +kernel) (fun H4 locs4 hds4 hz4 hF4 hS4 => ?_)
  clear he3 hz3 hS3
  refine lv_astore_n (lv' := [(2, .ref (s.heap.size + pos (34, 0))), (1, .ref (s.heap.size + pos (0, 0))), (0, .ref b)]) hx hb (show decode cL_law 15 = .ok (.astore_n 2, 1) by decide +kernel) rfl hl1 (by decide) rfl (fun ls2 hl2 => ?_)
  refine lv_iconst (v := 0) hx hb (show decode cL_law 16 = .ok (.iconst 0, 1) by decide +kernel) (by decide) ?_
  refine lv_istore_n (lv' := [(3, .int 0), (2, .ref (s.heap.size + pos (34, 0))), (1, .ref (s.heap.size + pos (0, 0))), (0, .ref b)]) hx hb (show decode cL_law 17 = .ok (.istore_n 3, 1) by decide +kernel) rfl hl2 (by decide) rfl (fun ls3 hl3 => ?_)
  refine kk H4 locs4 ls3 ?_ hS4 (lv_sub hl3 [3, 2, 1, 0] rfl)
  intro k q hk
  unfold wlst at hk
  rw [List.getElem?_map] at hk
  obtain ⟨d, h1, h2⟩ := Option.map_eq_some_iff.mp hk
  subst h2
  rcases dom_both d (List.mem_of_getElem? h1) with w | w
  · have hp := (pd_11 0 (by decide) rfl d w).2
    refine (hds d w).kept ((hF4 _ ?_).trans (o3 _ ?_))
    · show s.heap.size + pos d < s.heap.size + 218
      omega
    · show s.heap.size + pos d < s.heap.size + 218
      omega
  · exact hds4 d w
end LH
