/-! ===== contracts of methods, and one row of code ===== -/
def rmd (d : Nat) : Room := { frames := d, cells := 0, slots := 0, locals := 40 * d }
def QX (D : va_G) (ad : Nat × Nat → Nat) (cA : Nat → ClassId) (kd : Nat → Value) (z : Nat) (Q : Pst) : Array Value → State → Outcome → State → Prop := fun _ st oc t => (∃ (r : Option Vl) (u : Mem), oc = .returned (r.map (vv ad kd)) ∧ Q r u ∧ va_P D vwCl (wlst ad cA u) t.heap) ∧ va_F (fun q => z ≤ q) st t
def WD (D : va_G) (ad : Nat × Nat → Nat) (cA : Nat → ClassId) (kd : Nat → Value) (z : Nat) (σ : Mem) (U : State) : Prop := va_P D vwCl (wlst ad cA σ) U.heap ∧ va_K D vwCl (tysG cA) U ∧ (∀ τ, va_D (fun q => z ≤ q) (wlst ad cA τ)) ∧ KC ad kd z U U.heap
def MT (y : MethodName) (b : ByteArray) (maxL : Nat) (ret : Option FieldType) (d : Nat) (wpc : Cle) : Prop := ∀ (l : Launch) (D : va_G) (ad : Nat × Nat → Nat) (cA : Nat → ClassId) (kd : Nat → Value) (z : Nat) (as : List Vl) (σ : Mem) (Q : Pst), wpc as σ Q → Met l y (.code y b maxL ret :: gtb) (rmd d) (va_Pc (as.map (vv ad kd)) (fun U => WD D ad cA kd z σ U)) (QX D ad cA kd z Q) 0 0 (fun q => z ≤ q)
def KOK (own : String) (e : Nat × (Nat × Vl)) : Prop := match e.2.1 with
  | 0 => ∃ x : Int, e.2.2 = vI x ∧ Cond.constant own e.1 (iI x) ∈ gtb
  | 1 => ∃ x : Int, e.2.2 = vL x ∧ Cond.constantLong own e.1 (lI x) ∈ gtb
  | 2 => ∃ (tx : String) (k : Nat), e.2.2 = vC k ∧ (own, e.1, tx, k) ∈ strL
  | 3 => ∃ C n d : String, (C, n, d, e.2.2) ∈ statL ∧ Cond.fieldLink own e.1 C n d ∈ gtb
  | 4 => Cond.fieldLink own e.1 "java/lang/String" "coder" "B" ∈ gtb
  | 5 => Cond.fieldLink own e.1 "java/lang/String" "value" "[B" ∈ gtb
  | 6 => Cond.methodLink own e.1 Lib.Math.max.name ∈ gtb ∧ Cond.static Lib.Math.max.name ∈ gtb ∧ Cond.initialized "java/lang/Math" ∈ gtb ∧ Cond.code Lib.Math.max.name Lib.Math.max.code 2 (some .int) ∈ gtb
  | 7 => Cond.methodLink own e.1 Lib.Math.min.name ∈ gtb ∧ Cond.static Lib.Math.min.name ∈ gtb ∧ Cond.initialized "java/lang/Math" ∈ gtb ∧ Cond.code Lib.Math.min.name Lib.Math.min.code 2 (some .int) ∈ gtb
  | 8 => Cond.methodLink own e.1 Lib.MathLoose.max_long.x ∈ gtb ∧ Cond.static Lib.MathLoose.max_long.x ∈ gtb ∧ Cond.initialized "java/lang/Math" ∈ gtb ∧ Cond.code Lib.MathLoose.max_long.x Lib.MathLoose.max_long.code 4 (some .long) ∈ gtb
  | _ => False
/-- a call's callee: its contract, at a smaller depth; what the tables say of the call -/
def COK (d0 : Nat) (own : String) (e : Nat × ((Nat × (Nat × Nat)) × Cle)) : Prop := ∃ (y : MethodName) (b : ByteArray) (maxL : Nat) (ret : Option FieldType) (d : Nat), MT y b maxL ret d e.2.2 ∧ d < d0 ∧ maxL ≤ 20 ∧ Cond.code y b maxL ret ∈ gtb ∧ Cond.methodLink own e.1 y ∈ gtb ∧ Cond.initialized y.cls ∈ gtb ∧ (y.cls ≠ "java/lang/invoke/MethodHandle" ∧ y.cls ≠ "java/lang/invoke/VarHandle") ∧
  ((e.2.1.1 = 0 ∧ Cond.static y ∈ gtb ∧ (parseMethodDescriptor y.desc).map (fun d => d.parameters.length) = some e.2.1.2.2) ∨
   (e.2.1.1 = 1 ∧ 0 < e.2.1.2.2 ∧ Cond.instanceMethod y ∈ gtb ∧ Cond.selects y.cls y y ∈ gtb ∧ (parseMethodDescriptor y.desc).map (fun d => d.parameters.length) = some (e.2.1.2.2 - 1) ∧ ((e.2.1.2.1 = 100 ∧ y.cls = "java/lang/String") ∨ ∃ (T : u_T) (N : Nat), vwCl[e.2.1.2.1]? = some (y.cls, T, N))))
theorem lkF_mem {n : Nat} {f : Nat × Nat} : ∀ {l : List (Nat × (Nat × Nat))}, lkF n l = some f → (n, f) ∈ l
  | [], h => by cases h
  | e :: r, h => by
    unfold lkF at h
    split at h
    · cases h
      rename_i q
      exact List.mem_cons.mpr (Or.inl (by rw [← q]))
    · exact List.mem_cons_of_mem _ (lkF_mem h)
theorem lkK_mem {n : Nat} {f : Nat × Vl} : ∀ {l : List (Nat × (Nat × Vl))}, lkK n l = some f → (n, f) ∈ l
  | [], h => by cases h
  | e :: r, h => by
    unfold lkK at h
    split at h
    · cases h
      rename_i q
      exact List.mem_cons.mpr (Or.inl (by rw [← q]))
    · exact List.mem_cons_of_mem _ (lkK_mem h)
theorem lkC_mem {n : Nat} {f : (Nat × (Nat × Nat)) × Cle} : ∀ {l : List (Nat × ((Nat × (Nat × Nat)) × Cle))}, lkC n l = some f → (n, f) ∈ l
  | [], h => by cases h
  | e :: r, h => by
    unfold lkC at h
    split at h
    · cases h
      rename_i q
      exact List.mem_cons.mpr (Or.inl (by rw [← q]))
    · exact List.mem_cons_of_mem _ (lkC_mem h)
theorem lkB_mem {n : Nat} {f : List Nat × List Ent} : ∀ {l : List (Nat × (List Nat × List Ent))}, lkB n l = some f → (n, f) ∈ l
  | [], h => by cases h
  | e :: r, h => by
    unfold lkB at h
    split at h
    · cases h
      rename_i q
      exact List.mem_cons.mpr (Or.inl (by rw [← q]))
    · exact List.mem_cons_of_mem _ (lkB_mem h)
/-- the locals as the rows have them -/
def lm (ad : Nat × Nat → Nat) (kd : Nat → Value) (env : Lc) : List (Nat × Value) := env.map (fun q => (q.1, vv ad kd q.2))
theorem lget_at {ad : Nat × Nat → Nat} {kd : Nat → Value} {nL : Nat} {ls : Array Slot} {n : Nat} {v : Vl} : ∀ {env : Lc}, lv_has ls nL (lm ad kd env) → lget env n = some v → ls[n]? = some (.val (vv ad kd v)) := by
  intro env hl h
  have hm : (n, v) ∈ env := by
    clear hl
    induction env with
    | nil => cases h
    | cons q r ih =>
      unfold lget at h
      split at h
      · cases h
        rename_i e
        exact List.mem_cons.mpr (Or.inl (by rw [← e]))
      · exact List.mem_cons_of_mem _ (ih h)
  exact hl.2.2 (n, vv ad kd v) (List.mem_map.mpr ⟨(n, v), hm, rfl⟩)
theorem vv_cat {ad : Nat × Nat → Nat} {kd : Nat → Value} (hk : ∀ q, kd q = .null ∨ ∃ a, kd q = .ref a) (v : Vl) : (vv ad kd v).category = vcat v := by
  rcases v with x | x | (_ | d) | k
  · rfl
  · rfl
  · rfl
  · rfl
  · rcases hk k with h | ⟨a, h⟩
    · show (kd k).category = 1
      rw [h]; rfl
    · show (kd k).category = 1
      rw [h]; rfl
theorem lm_set1 {ad : Nat × Nat → Nat} {kd : Nat → Value} (hk : ∀ q, kd q = .null ∨ ∃ a, kd q = .ref a) (env : Lc) (n : Nat) (v : Vl) : (n, vv ad kd v) :: (lm ad kd env).filter (fun q => !(q.1 == n) && !(q.1 + 1 == n && q.2.category == 2)) = lm ad kd (lset1 env n v) := by
  unfold lm lset1
  rw [List.map_cons, List.filter_map]
  congr 2
  refine List.filter_congr fun q _ => ?_
  show (!(q.1 == n) && !(q.1 + 1 == n && (vv ad kd q.2).category == 2)) = _
  rw [vv_cat hk]
theorem lm_set2 {ad : Nat × Nat → Nat} {kd : Nat → Value} (hk : ∀ q, kd q = .null ∨ ∃ a, kd q = .ref a) (env : Lc) (n : Nat) (v : Vl) : (n, vv ad kd v) :: (lm ad kd env).filter (fun q => !(q.1 == n) && (!(q.1 == n + 1) && !(q.1 + 1 == n && q.2.category == 2))) = lm ad kd (lset2 env n v) := by
  unfold lm lset2
  rw [List.map_cons, List.filter_map]
  congr 2
  refine List.filter_congr fun q _ => ?_
  show (!(q.1 == n) && (!(q.1 == n + 1) && !(q.1 + 1 == n && (vv ad kd q.2).category == 2))) = _
  rw [vv_cat hk]
theorem pI_inv {st : List Vl} {k : Int → List Vl → Prop} (h : pI st k) : ∃ x r, st = vI x :: r ∧ k x r := by
  unfold pI at h
  split at h
  · exact ⟨_, _, rfl, h⟩
  · exact h.elim
theorem pL_inv {st : List Vl} {k : Int → List Vl → Prop} (h : pL st k) : ∃ x r, st = vL x :: r ∧ k x r := by
  unfold pL at h
  split at h
  · exact ⟨_, _, rfl, h⟩
  · exact h.elim
theorem pV_inv {st : List Vl} {k : Vl → List Vl → Prop} (h : pV st k) : ∃ x r, st = x :: r ∧ k x r := by
  unfold pV at h
  split at h
  · exact ⟨_, _, rfl, h⟩
  · exact h.elim
theorem pN_inv {k : List Vl → List Vl → Prop} : ∀ (n : Nat) (acc st : List Vl), pN n acc st k → ∃ top r, top.length = n ∧ st = top ++ r ∧ k (top.reverse ++ acc) r
  | 0, acc, st, h => ⟨[], st, rfl, rfl, h⟩
  | n + 1, acc, v :: st, h => by
    obtain ⟨top, r, h1, h2, h3⟩ := pN_inv n (v :: acc) st h
    refine ⟨v :: top, r, by rw [List.length_cons, h1], by rw [h2]; rfl, ?_⟩
    rw [List.reverse_cons, List.append_assoc]
    exact h3
  | n + 1, _, [], h => h.elim
theorem gI_inv {env : Lc} {n : Nat} {k : Int → Prop} (h : gI env n k) : ∃ x, lget env n = some (vI x) ∧ k x := by
  unfold gI at h
  split at h
  · rename_i x e
    exact ⟨x, e, h⟩
  · exact h.elim
theorem gL_inv {env : Lc} {n : Nat} {k : Int → Prop} (h : gL env n k) : ∃ x, lget env n = some (vL x) ∧ k x := by
  unfold gL at h
  split at h
  · rename_i x e
    exact ⟨x, e, h⟩
  · exact h.elim
theorem gA_inv {env : Lc} {n : Nat} {k : Vl → Prop} (h : gA env n k) : ∃ v, lget env n = some v ∧ k v ∧ ((∃ d, v = .inr (.inr (.inl (some d)))) ∨ ∃ q, v = vC q ∧ ¬ q = 5) := by
  unfold gA at h
  split at h
  · rename_i d e
    exact ⟨_, e, h, Or.inl ⟨_, rfl⟩⟩
  · rename_i q e
    exact ⟨_, e, h.2, Or.inr ⟨_, rfl, h.1⟩⟩
  · exact h.elim
theorem rI_inv {st : List Vl} {k : Int → Prop} (h : rI st k) : ∃ x, st = [vI x] ∧ k x := by
  unfold rI at h
  split at h
  · exact ⟨_, rfl, h⟩
  · exact h.elim
theorem rL_inv {st : List Vl} {k : Int → Prop} (h : rL st k) : ∃ x, st = [vL x] ∧ k x := by
  unfold rL at h
  split at h
  · exact ⟨_, rfl, h⟩
  · exact h.elim
theorem rA_inv {st : List Vl} {k : Nat → Prop} (h : rA st k) : ∃ x, st = [vC x] ∧ k x := by
  unfold rA at h
  split at h
  · exact ⟨_, rfl, h⟩
  · exact h.elim
theorem rV_inv {st : List Vl} {k : Prop} (h : rV st k) : st = [] ∧ k := by
  unfold rV at h
  split at h
  · exact ⟨rfl, h⟩
  · exact h.elim
theorem ldK_inv {E : EE} {n tag : Nat} {k : Vl → Prop} (h : ldK E n tag k) : ∃ v, (n, (tag, v)) ∈ E.2.2.2.1 ∧ k v := by
  unfold ldK at h
  split at h
  · rename_i e he
    obtain ⟨h1, h2⟩ := h
    refine ⟨e.2, ?_, h2⟩
    have := lkK_mem he
    rw [← h1]
    exact this
  · exact h.elim
/-- the locals of a block's begin are among those that there are -/
theorem coll_inv {ad : Nat × Nat → Nat} {kd : Nat → Value} {nL : Nat} {ls : Array Slot} {env : Lc} {k : List Vl → Prop} (hl : lv_has ls nL (lm ad kd env)) : ∀ (lv : List Nat) (pre acc : List Nat) (av : List Vl), pre.length = av.length → lv_has ls nL (lm ad kd (pre.zip av.reverse)) → coll lv env av k → ∃ vals, k vals ∧ lv_has ls nL (lm ad kd ((pre ++ lv).zip vals))
  | [], pre, acc, av, hlen, ha, h => ⟨av.reverse, h, by rw [List.append_nil]; exact ha⟩
  | n :: r, pre, acc, av, hlen, ha, h => by
    unfold coll at h
    split at h
    · rename_i v e
      have hv := lget_at hl e
      obtain ⟨vals, h1, h2⟩ := coll_inv hl r (pre ++ [n]) acc (v :: av) (by simp [hlen]) (by
        refine ⟨ha.1, ha.2.1, fun q hq => ?_⟩
        rw [List.reverse_cons, List.zip_append (by simp [hlen])] at hq
        unfold lm at hq
        rw [List.map_append] at hq
        rcases List.mem_append.mp hq with h4 | h4
        · exact ha.2.2 q h4
        · have : q = (n, vv ad kd v) := by simpa using h4
          rw [this]
          exact hv) h
      exact ⟨vals, h1, by rw [List.append_assoc] at h2; exact h2⟩
    · exact h.elim
section IN
variable {p : Program} {l : Launch} {e : Env} {R : Room} {s : State} {m : MethodId} {args : Array Value} {below : List Frame} {meth : Method} {c : Code} {cells slots : Nat} {Q : State → Prop}
variable {cc : ByteArray} {D : va_G} {ad : Nat × Nat → Nat} {cA : Nat → ClassId} {kd : Nat → Value} {z : Nat} {own : String} {E : EE} {d0 : Nat} {post : Pst} {P : Nat → List Vl → List Vl → Mem → Prop}
/-- what stays through a method's run -/
def CX (p : Program) (R : Room) (s : State) (m : MethodId) (args : Array Value) (c : Code) (cells slots : Nat) (cc : ByteArray) (D : va_G) (ad : Nat × Nat → Nat) (cA : Nat → ClassId) (kd : Nat → Value) (z : Nat) (own : String) (E : EE) (d0 : Nat) : Prop :=
  (p.tables.exec = Jvm.exec ∧ c.code = cc ∧ c.maxLocals = E.1 ∧ s.vm.findClass own = some m.cls ∧ (∀ w ∈ gtb, w.before args s = true)) ∧
  (va_K D vwCl (tysG cA) s ∧ (∀ τ, va_D (fun q => z ≤ q) (wlst ad cA τ)) ∧ KC ad kd z s s.heap) ∧
  ((∀ f ∈ E.2.2.1, FOK own f) ∧ (∀ f ∈ E.2.2.2.1, KOK own f) ∧ (∀ f ∈ E.2.2.2.2.1, COK d0 own f)) ∧
  (((∀ d, d < d0 → d + 1 ≤ R.frames ∧ 39 + 40 * d ≤ R.locals) ∧ 0 < d0) ∧ cells ≤ R.cells ∧ slots ≤ R.slots) ∧
  (0 < E.2.2.2.2.2.1 → ∃ b, kd 7 = .ref b ∧ va_X b (E.2.2.2.2.2.1 - 1) (fun j => iI (E.2.2.2.2.2.2 j)) s s.heap ∧ b < s.heap.size ∧ ¬ z ≤ b)
def IV (D : va_G) (ad : Nat × Nat → Nat) (cA : Nat → ClassId) (z : Nat) (s : State) (σ : Mem) (H : Heap) (locs : List Loc) : Prop := va_P D vwCl (wlst ad cA σ) H ∧ va_S (fun q => z ≤ q) s.heap H locs
theorem callX {H : Heap} {locs : List Loc} {pc : Nat} {ls : Array Slot} {rest st0 : List Value} {Qp : Pst} {a : Array Value} {free : Addr → Prop} (hr : va_Run p l e R s m args below meth c H locs cells slots 0 0 (F0 m pc ls st0) rest (QX D ad cA kd z Qp a) free) (hS : va_S (fun q => z ≤ q) s.heap H locs) (hf : ∀ q, free q → z ≤ q)
    (kk : ∀ (r : Option Vl) (u : Mem) (H1 : Heap) (locs1 : List Loc), Qp r u → IV D ad cA z s u H1 locs1 → W p l e R s m args below meth c H1 locs1 cells slots Q (F0 m (pc + 3) ls ((r.map (vv ad kd)).toList ++ rest))) : W p l e R s m args below meth c H locs cells slots Q (F0 m pc ls st0) := by
  intro T hT X
  obtain ⟨v, st₀, t, T', L, h0, X', hL, e1, e2, ⟨⟨r, u, hv, hp, hb⟩, hz, hk⟩, st⟩ := hr T hT X
  cases hv
  rw [h0] at hz hk
  obtain ⟨t2, a1, b1⟩ := kk r u T'.heap (locs ++ L) hp ⟨by rw [e1]; exact hb, Nat.le_trans hS.1 (by rw [e1]; exact hz), fun q h1 h2 => by rw [e1, hk q (Nat.lt_of_lt_of_le h1 hS.1) h2]; exact hS.2.1 q h1 h2, fun q hq => by
      rcases List.mem_append.mp hq with h | h
      · exact hS.2.2 q h
      · exact hf _ (hL q h)⟩ T' rfl X'
  exact ⟨t2, st t2 a1, b1⟩
end IN
