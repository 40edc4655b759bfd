/-! ===== a method's contract out of its blocks ===== -/
def nOK (ret : Option FieldType) : Option Vl → Prop
  | none => ret = none
  | some (.inl x) => ∃ ty, ret = some ty ∧ narrow ty (.int (iI x)) = .int (iI x)
  | some (.inr (.inl _)) => ret = some .long
  | some (.inr (.inr (.inr q))) => (∃ n, ret = some (.object n)) ∧ ¬ q = 5
  | some (.inr (.inr (.inl _))) => False
def pst (ret : Option FieldType) (Q : Pst) : Pst := fun v u => nOK ret v ∧ Q v u
def argIx : Nat → List Vl → List Nat
  | _, [] => []
  | i, v :: vs => i :: argIx (if vcat v = 2 then i + 2 else i + 1) vs
def wpM (E : EE) (ret : Option FieldType) (lv0 : List Nat) : Cle := fun as σ Q => (argIx 0 as = lv0 ∧ (as.map vcat).sum ≤ E.1) ∧ wps E (pst ret Q) 0 as [] σ
theorem lv_args_lm {ad : Nat × Nat → Nat} {kd : Nat → Value} (hk : ∀ q, kd q = .null ∨ ∃ a, kd q = .ref a) : ∀ (as : List Vl) (i : Nat), lv_args i (as.map (vv ad kd)) = lm ad kd ((argIx i as).zip as)
  | [], _ => rfl
  | v :: vs, i => by
    show (i, vv ad kd v) :: lv_args (if (vv ad kd v).category = 2 then i + 2 else i + 1) (vs.map (vv ad kd)) = (i, vv ad kd v) :: lm ad kd ((argIx (if vcat v = 2 then i + 2 else i + 1) vs).zip vs)
    rw [vv_cat hk, lv_args_lm hk vs]
theorem lg_len {ad : Nat × Nat → Nat} {kd : Nat → Value} (hk : ∀ q, kd q = .null ∨ ∃ a, kd q = .ref a) : ∀ (as : List Vl), (lg_sl (as.map (vv ad kd))).length = (as.map vcat).sum
  | [] => rfl
  | v :: vs => by
    show ((if (vv ad kd v).category = 2 then [Slot.val (vv ad kd v), .second] else [.val (vv ad kd v)]) ++ lg_sl (vs.map (vv ad kd))).length = vcat v + (vs.map vcat).sum
    rw [List.length_append, lg_len hk vs, vv_cat hk]
    have : vcat v = 1 ∨ vcat v = 2 := by
      rcases v with x | x | (_ | d) | k <;> simp [vcat]
    rcases this with h | h
    · rw [if_neg (by omega), h]; rfl
    · rw [if_pos h, h]; rfl
section ME
variable {p : Program} {l : Launch} {e : Env} {R : Room} {s : State} {m : MethodId} {args : Array Value} {below : List Frame} {meth : Method} {c : Code} {cells slots : Nat} {Q : State → Prop}
variable {cc : ByteArray} {D : va_G} {ad : Nat × Nat → Nat} {cA : Nat → ClassId} {kd : Nat → Value} {z : Nat} {own : String} {E : EE} {d0 : Nat} {post : Pst}
theorem runL_sound (hC : CX p R s m args c cells slots cc D ad cA kd z own E d0) {P : Nat → List Vl → List Vl → Mem → Prop}
    (hj : ∀ (t : Nat) (vals st' : List Vl) (σ' : Mem) (ls' : Array Slot) (H' : Heap) (locs' : List Loc) (b : List Nat × List Ent), lkB t E.2.1 = some b → lv_has ls' E.1 (lm ad kd (b.1.zip vals)) → IV D ad cA z s σ' H' locs' → P t vals st' σ' → W p l e R s m args below meth c H' locs' cells slots Q (F0 m t ls' (st'.map (vv ad kd))))
    (hr : ∀ (v : Option Vl) (ins : Instr) (pc : Nat) (σ' : Mem) (ls' : Array Slot) (H' : Heap) (locs' : List Loc), ((ins = .ireturn ∧ ∃ x, v = some (vI x)) ∨ (ins = .lreturn ∧ ∃ x, v = some (vL x)) ∨ (ins = .areturn ∧ ∃ q, v = some (vC q)) ∨ (ins = .return_ ∧ v = none)) → decode cc pc = .ok (ins, 1) → IV D ad cA z s σ' H' locs' → post v σ' → W p l e R s m args below meth c H' locs' cells slots Q (F0 m pc ls' ((v.map (vv ad kd)).toList))) :
    ∀ (rows : List Ent) (nx : Nat) (env : Lc) (st : List Vl) (σ : Mem) (ls : Array Slot) (H : Heap) (locs : List Loc), rowsOK cc nx rows = true → lv_has ls E.1 (lm ad kd env) → IV D ad cA z s σ H locs → runL E post P rows nx env st σ → W p l e R s m args below meth c H locs cells slots Q (F0 m nx ls (st.map (vv ad kd)))
  | [], nx, env, st, σ, ls, H, locs, _, hl, hI, h => jmp_sound hl hI hj h
  | en :: r, nx, env, st, σ, ls, H, locs, hok, hl, hI, h => by
    unfold rowsOK at hok
    rw [Bool.and_eq_true, Bool.and_eq_true, beq_iff_eq] at hok
    obtain ⟨rfl, h1, h2⟩ := hok
    exact ins_sound hC h1 hl hI (fun env' st' σ' ls' H' locs' a1 a2 a3 => runL_sound hC hj hr r _ env' st' σ' ls' H' locs' h2 a1 a2 a3) hj hr h
theorem wps_sound (hC : CX p R s m args c cells slots cc D ad cA kd z own E d0) (hok : blksOK cc E = true)
    (hr : ∀ (v : Option Vl) (ins : Instr) (pc : Nat) (σ' : Mem) (ls' : Array Slot) (H' : Heap) (locs' : List Loc), ((ins = .ireturn ∧ ∃ x, v = some (vI x)) ∨ (ins = .lreturn ∧ ∃ x, v = some (vL x)) ∨ (ins = .areturn ∧ ∃ q, v = some (vC q)) ∨ (ins = .return_ ∧ v = none)) → decode cc pc = .ok (ins, 1) → IV D ad cA z s σ' H' locs' → post v σ' → W p l e R s m args below meth c H' locs' cells slots Q (F0 m pc ls' ((v.map (vv ad kd)).toList)))
    {pc : Nat} {vals st : List Vl} {σ : Mem} (h : wps E post pc vals st σ) : ∀ (ls : Array Slot) (H : Heap) (locs : List Loc) (b : List Nat × List Ent), lkB pc E.2.1 = some b → lv_has ls E.1 (lm ad kd (b.1.zip vals)) → IV D ad cA z s σ H locs → W p l e R s m args below meth c H locs cells slots Q (F0 m pc ls (st.map (vv ad kd))) := by
  refine h (fun pc vals st σ => ∀ (ls : Array Slot) (H : Heap) (locs : List Loc) (b : List Nat × List Ent), lkB pc E.2.1 = some b → lv_has ls E.1 (lm ad kd (b.1.zip vals)) → IV D ad cA z s σ H locs → W p l e R s m args below meth c H locs cells slots Q (F0 m pc ls (st.map (vv ad kd)))) ?_
  intro pc vals st σ hb ls H locs b hlb hl hI
  unfold blk at hb
  rw [hlb] at hb
  have h1 : rowsOK cc pc b.2 = true := List.all_eq_true.mp hok (pc, b) (lkB_mem hlb)
  exact runL_sound hC (fun t vals st' σ' ls' H' locs' b' q1 q2 q3 q4 => q4 ls' H' locs' b' q1 q2 q3) hr b.2 pc _ st σ ls H locs h1 hl hI hb
end ME
theorem MT_of {y : MethodName} {b : ByteArray} {E : EE} {ret : Option FieldType} {d : Nat} {lv0 : List Nat} (hy : plainName y.cls = true) (hlk : ∃ ents, lkB 0 E.2.1 = some (lv0, ents)) (hok : blksOK b E = true) (hF : ∀ f ∈ E.2.2.1, FOK y.cls f) (hK : ∀ f ∈ E.2.2.2.1, KOK y.cls f) (hCC : ∀ f ∈ E.2.2.2.2.1, COK d y.cls f) (hs : E.2.2.2.2.2.1 = 0) (hd0 : 0 < d) : MT y b E.1 ret d (wpM E ret lv0) := by
  intro l D ad cA kd z as σ Q hw
  obtain ⟨⟨ha1, ha2⟩, hw⟩ := hw
  refine Met.ofW (cc := b) (maxL := E.1) (ret := ret) hy rfl ?_
  intro p e s m args below meth c s₁ B hml hv
  obtain ⟨rfl, hP, hKk, hD, hKC⟩ := hv
  have hx := B.exec
  have hb := B.bytes
  have hr := B.returns
  have hts := atoms_spec (ws := .code y b E.1 ret :: gtb) B.pre
  have hown : s.vm.findClass y.cls = some m.cls := findClass_of_methodNamed B.named
  have hlocks := B.notSynchronized
  have hC : CX p (rmd d) s m (as.map (vv ad kd)).toArray c 0 0 b D ad cA kd z y.cls E d := ⟨⟨hx, hb, hml, hown, fun w h => hts w (List.mem_cons_of_mem _ h)⟩, ⟨hKk, hD, hKC⟩, ⟨hF, hK, hCC⟩, ⟨⟨fun d' h => ⟨h, by show 39 + 40 * d' ≤ 40 * d; omega⟩, hd0⟩, Nat.le_refl _, Nat.le_refl _⟩, fun h => absurd h (by omega)⟩
  have hl := lv_entry (as.map (vv ad kd)) (n := E.1) (by rw [lg_len hKC.1.1]; exact ha2)
  rw [lg_entry_eq]
  generalize (lg_sl (as.map (vv ad kd)) ++ List.replicate (E.1 - (lg_sl (as.map (vv ad kd))).length) Slot.unset).toArray = ls at hl ⊢
  rw [lv_args_lm hKC.1.1, ha1] at hl
  obtain ⟨ents, he⟩ := hlk
  refine wps_sound hC hok ?_ hw ls s.heap [] (lv0, ents) he hl ⟨hP, va_S.rf⟩
  intro v ins pc σ' ls' H' locs' hi hd hI hp
  obtain ⟨hn, hq⟩ := hp
  have fin : ∀ t : State, t.heap = H' → QX D ad cA kd z Q (as.map (vv ad kd)).toArray s (.returned (v.map (vv ad kd))) t := fun t ht => ⟨⟨v, σ', rfl, hq, by rw [ht]; exact hI.1⟩, hI.2.F ht⟩
  rcases hi with ⟨rfl, x, rfl⟩ | ⟨rfl, x, rfl⟩ | ⟨rfl, q, rfl⟩ | ⟨rfl, rfl⟩
  · obtain ⟨ty, h1, h2⟩ := hn
    exact W.zret (v := iI x) hx hb (hr.trans h1) h2 (fun t ht _ => fin t ht) hI.2.2.2 hd hlocks
  · exact W.lret (v := lI x) hx hb (hr.trans hn) (fun t ht _ => fin t ht) hI.2.2.2 hd hlocks
  · obtain ⟨⟨n, h1⟩, h2⟩ := hn
    obtain ⟨a, ha⟩ := hKC.1.2 q h2
    exact W.aret (v := kd q) hx hb (hr.trans h1) (Or.inl ⟨n, rfl⟩) (Or.inr ⟨a, ha⟩) (fun t ht _ => fin t ht) hI.2.2.2 hd hlocks
  · exact W.vret hx hb (hr.trans hn) (fun t ht _ => fin t ht) hI.2.2.2 hd hlocks
