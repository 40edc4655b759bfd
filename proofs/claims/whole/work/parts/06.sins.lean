theorem lget_mem {n : Nat} {v : Vl} : ∀ {env : Lc}, lget env n = some v → (n, v) ∈ env
  | [], h => by cases h
  | q :: r, h => by
    unfold lget at h
    split at h
    · cases h
      rename_i e
      exact List.mem_cons.mpr (Or.inl (by rw [← e]))
    · exact List.mem_cons_of_mem _ (lget_mem h)
theorem dup2_inv {st : List Vl} {k : List Vl → Prop} (h : dup2P st k) : (∃ x r, st = vL x :: r ∧ k (vL x :: vL x :: r)) ∨ ∃ x y r, st = x :: y :: r ∧ (vcat x = 1 ∧ vcat y = 1) ∧ k (x :: y :: x :: y :: r) := by
  unfold dup2P at h
  split at h
  · exact Or.inl ⟨_, _, rfl, h⟩
  · exact Or.inr ⟨_, _, _, rfl, h.1, h.2⟩
  · exact h.elim
theorem swl_nn {x : Int} {pc : Nat} {d : Int} (h0 : 0 ≤ (pc : Int) + d) : ∀ (l : List (Int × Int)), (∀ q ∈ l, 0 ≤ (pc : Int) + q.2) → 0 ≤ (pc : Int) + Op.lookupswitch.offset l d x
  | [], _ => h0
  | q :: r, h => by
    rw [show q :: r = (q.1, q.2) :: r from rfl, Op.lookupswitch.offset_cons]
    by_cases e : q.1 = x
    · rw [if_pos e]
      exact h q List.mem_cons_self
    · rw [if_neg e]
      exact swl_nn h0 r (fun q' hq => h q' (List.mem_cons_of_mem _ hq))
theorem getF_inv {E : EE} {n : Nat} {st : List Vl} {σ : Mem} {k : List Vl → Prop} (h : getF E n st σ k) : (∃ f o r, (n, f) ∈ E.2.2.1 ∧ st = vR o 0 :: r ∧ cls o = f.1 ∧ k (fvl f.1 f.2 o σ :: r)) ∨ (∃ v q r, (n, (4, v)) ∈ E.2.2.2.1 ∧ st = vC q :: r ∧ ckind q = 20 ∧ k (vI 0 :: r)) ∨ ∃ v q r, (n, (5, v)) ∈ E.2.2.2.1 ∧ st = vC q :: r ∧ ckind q = 20 ∧ k (vC (q + 1) :: r) := by
  unfold getF at h
  split at h
  · rename_i f hf
    split at h
    · exact Or.inl ⟨f, _, _, lkF_mem hf, rfl, h.1, h.2⟩
    · exact h.elim
  · split at h
    · rename_i v hv
      split at h
      · exact Or.inr (Or.inl ⟨v, _, _, lkK_mem hv, rfl, h.1, h.2⟩)
      · exact h.elim
    · rename_i v hv
      split at h
      · exact Or.inr (Or.inr ⟨v, _, _, lkK_mem hv, rfl, h.1, h.2⟩)
      · exact h.elim
    · exact h.elim
theorem putF_inv {E : EE} {n : Nat} {st : List Vl} {σ : Mem} {k : List Vl → Mem → Prop} (h : putF E n st σ k) : (∃ f x o r, (n, f) ∈ E.2.2.1 ∧ st = vI x :: vR o 0 :: r ∧ cls o = f.1 ∧ ((ftab f.1 f.2).1 = 0 ∨ ((ftab f.1 f.2).1 = 2 ∧ (x = 0 ∨ x = 1))) ∧ k r (updM σ o f.2 0 x)) ∨ ∃ f x o r, (n, f) ∈ E.2.2.1 ∧ st = vL x :: vR o 0 :: r ∧ cls o = f.1 ∧ (ftab f.1 f.2).1 = 1 ∧ k r (updM σ o f.2 0 x) := by
  unfold putF at h
  split at h
  · rename_i f hf
    split at h
    · exact Or.inl ⟨f, _, _, _, lkF_mem hf, rfl, h.1, h.2.1, h.2.2⟩
    · exact Or.inr ⟨f, _, _, _, lkF_mem hf, rfl, h.1, h.2.1, h.2.2⟩
    · exact h.elim
  · exact h.elim
theorem aLd_inv {E : EE} {kd0 : Nat} {st : List Vl} {σ : Mem} {mk : Int → Vl} {k : List Vl → Prop} (h : aLd E kd0 st σ mk k) : (∃ i o j r n, st = vI i :: vR o (j + 1) :: r ∧ arrK kd0 n o j ∧ (0 ≤ wr i ∧ wr i < n) ∧ k (mk (σ o j (wr i)) :: r)) ∨ (∃ i r, st = vI i :: vC 7 :: r ∧ kd0 = 3 ∧ (0 ≤ wr i ∧ wr i < (E.2.2.2.2.2.1 : Int) - 1) ∧ k (vI (E.2.2.2.2.2.2 (wr i).toNat) :: r)) ∨ ∃ i q r, st = vI i :: vC q :: r ∧ (ckind q = 3 ∧ kd0 = 3) ∧ (0 ≤ wr i ∧ wr i < clen q) ∧ k (vI (cval q (wr i)) :: r) := by
  unfold aLd at h
  split at h
  · obtain ⟨n, h1, h2, h3⟩ := h
    exact Or.inl ⟨_, _, _, _, n, rfl, h1, h2, h3⟩
  · rcases h with ⟨⟨rfl, h1⟩, h2, h3⟩ | ⟨h1, h2, h3⟩
    · exact Or.inr (Or.inl ⟨_, _, rfl, h1, h2, h3⟩)
    · exact Or.inr (Or.inr ⟨_, _, _, rfl, h1, h2, h3⟩)
  · exact h.elim
theorem bLd_inv {st : List Vl} {σ : Mem} {k : List Vl → Prop} (h : bLd st σ k) : (∃ i o j r kd0 n, st = vI i :: vR o (j + 1) :: r ∧ (kd0 = 5 ∨ kd0 = 6) ∧ arrK kd0 n o j ∧ (0 ≤ wr i ∧ wr i < n) ∧ k (vI (σ o j (wr i)) :: r)) ∨ ∃ i q r, st = vI i :: vC q :: r ∧ ckind q = 6 ∧ (0 ≤ wr i ∧ wr i < clen q) ∧ k (vI (cval q (wr i)) :: r) := by
  unfold bLd at h
  split at h
  · obtain ⟨kd0, n, h0, h1, h2, h3⟩ := h
    exact Or.inl ⟨_, _, _, _, kd0, n, rfl, h0, h1, h2, h3⟩
  · exact Or.inr ⟨_, _, _, rfl, h.1, h.2.1, h.2.2⟩
  · exact h.elim
theorem aLdR_inv {st : List Vl} {k : List Vl → Prop} (h : aLdR st k) : ∃ i o j r kd0 n, st = vI i :: vR o (j + 1) :: r ∧ (kd0 = 7 ∨ kd0 = 8) ∧ arrK kd0 n o j ∧ (0 ≤ wr i ∧ wr i < n) ∧ k (vR (eltC j (wr i)) 0 :: r) := by
  unfold aLdR at h
  split at h
  · obtain ⟨kd0, n, h0, h1, h2, h3⟩ := h
    exact ⟨_, _, _, _, kd0, n, rfl, h0, h1, h2, h3⟩
  · exact h.elim
theorem iSt_inv {st : List Vl} {σ : Mem} {k : List Vl → Mem → Prop} (h : iSt st σ k) : ∃ x i o j r n, st = vI x :: vI i :: vR o (j + 1) :: r ∧ arrK 3 n o j ∧ (0 ≤ wr i ∧ wr i < n) ∧ k r (updM σ o j (wr i) x) := by
  unfold iSt at h
  split at h
  · obtain ⟨n, h1, h2, h3⟩ := h
    exact ⟨_, _, _, _, _, n, rfl, h1, h2, h3⟩
  · exact h.elim
theorem lSt_inv {st : List Vl} {σ : Mem} {k : List Vl → Mem → Prop} (h : lSt st σ k) : ∃ x i o j r n, st = vL x :: vI i :: vR o (j + 1) :: r ∧ arrK 4 n o j ∧ (0 ≤ wr i ∧ wr i < n) ∧ k r (updM σ o j (wr i) x) := by
  unfold lSt at h
  split at h
  · obtain ⟨n, h1, h2, h3⟩ := h
    exact ⟨_, _, _, _, _, n, rfl, h1, h2, h3⟩
  · exact h.elim
theorem bSt_inv {st : List Vl} {σ : Mem} {k : List Vl → Mem → Prop} (h : bSt st σ k) : (∃ x i o j r kd0 n, st = vI x :: vI i :: vR o (j + 1) :: r ∧ ((kd0 = 5 ∧ (x = 0 ∨ x = 1)) ∨ (kd0 = 6 ∧ -128 ≤ x ∧ x ≤ 127)) ∧ arrK kd0 n o j ∧ (0 ≤ wr i ∧ wr i < n) ∧ k r (updM σ o j (wr i) x)) ∨ ∃ x i o j r n, st = vI x :: vI i :: vR o (j + 1) :: r ∧ arrK 5 n o j ∧ (0 ≤ wr i ∧ wr i < n) ∧ ∀ y : Int, (y = 0 ∨ y = 1) → ((x = 0 ∨ x = 1) → y = x) → k r (updM σ o j (wr i) y) := by
  unfold bSt at h
  split at h
  · rcases h with ⟨kd0, n, h0, h1, h2, h3⟩ | ⟨n, h1, h2, h3⟩
    · exact Or.inl ⟨_, _, _, _, _, kd0, n, rfl, h0, h1, h2, h3⟩
    · exact Or.inr ⟨_, _, _, _, _, n, rfl, h1, h2, h3⟩
  · exact h.elim
theorem aLen_inv {E : EE} {st : List Vl} {k : List Vl → Prop} (h : aLen E st k) : (∃ o j r kd0 n, st = vR o (j + 1) :: r ∧ (3 ≤ kd0 ∧ kd0 ≤ 8) ∧ arrK kd0 n o j ∧ k (vI (n : Nat) :: r)) ∨ (∃ r, st = vC 7 :: r ∧ 0 < E.2.2.2.2.2.1 ∧ k (vI ((E.2.2.2.2.2.1 : Int) - 1) :: r)) ∨ ∃ q r, st = vC q :: r ∧ (ckind q = 3 ∨ ckind q = 6) ∧ k (vI (clen q) :: r) := by
  unfold aLen at h
  split at h
  · obtain ⟨kd0, n, h0, h1, h3⟩ := h
    exact Or.inl ⟨_, _, _, kd0, n, rfl, h0, h1, h3⟩
  · rcases h with ⟨⟨rfl, h1⟩, h2⟩ | ⟨h1, h2⟩
    · exact Or.inr (Or.inl ⟨_, rfl, h1, h2⟩)
    · exact Or.inr (Or.inr ⟨_, _, rfl, h1, h2⟩)
  · exact h.elim
theorem calV_inv {E : EE} {n : Nat} {st : List Vl} {σ : Mem} {k : List Vl → Mem → Prop} (h : calV E n st σ k) : ∃ (ce : (Nat × (Nat × Nat)) × Cle) (as r : List Vl), (n, ce) ∈ E.2.2.2.2.1 ∧ st = as.reverse ++ r ∧ as.length = ce.1.2.2 ∧ (ce.1.1 = 1 ∧ recvOK ce.1.2.1 as) ∧ (r.map vcat).sum ≤ 8 ∧ ∃ Q : Pst, ce.2 as σ Q ∧ ∀ v u, Q v u → k (v.toList ++ r) u := by
  unfold calV at h
  split at h
  · rename_i ce hce
    obtain ⟨top, r, h1, h2, ⟨h3, h4⟩, Q, h5, h6⟩ := pN_inv _ _ _ h
    rw [List.append_nil] at h4 h5
    exact ⟨ce, top.reverse, r, lkC_mem hce, by rw [List.reverse_reverse]; exact h2, by rw [List.length_reverse]; exact h1, h4, h3, Q, h5, h6⟩
  · exact h.elim
theorem calS_inv {E : EE} {n : Nat} {st : List Vl} {σ : Mem} {k : List Vl → Mem → Prop} (h : calS E n st σ k) : ∃ (ce : (Nat × (Nat × Nat)) × Cle) (as r : List Vl), (n, ce) ∈ E.2.2.2.2.1 ∧ st = as.reverse ++ r ∧ as.length = ce.1.2.2 ∧ ce.1.1 = 0 ∧ (r.map vcat).sum ≤ 8 ∧ ∃ Q : Pst, ce.2 as σ Q ∧ ∀ v u, Q v u → k (v.toList ++ r) u := by
  unfold calS at h
  split at h
  · rename_i ce hce
    obtain ⟨top, r, h1, h2, ⟨h3, h4⟩, Q, h5, h6⟩ := pN_inv _ _ _ h
    rw [List.append_nil] at h5
    exact ⟨ce, top.reverse, r, lkC_mem hce, by rw [List.reverse_reverse]; exact h2, by rw [List.length_reverse]; exact h1, h4, h3, Q, h5, h6⟩
  · exact h.elim
theorem calM_inv {E : EE} {n : Nat} {st : List Vl} {σ : Mem} {k : List Vl → Mem → Prop} (h : calM E n st σ k) : (∃ v x y r, (n, (6, v)) ∈ E.2.2.2.1 ∧ st = vI y :: vI x :: r ∧ (r.map vcat).sum ≤ 8 ∧ k (vI (max (wr x) (wr y)) :: r) σ) ∨ (∃ v x y r, (n, (7, v)) ∈ E.2.2.2.1 ∧ st = vI y :: vI x :: r ∧ (r.map vcat).sum ≤ 8 ∧ k (vI (min (wr x) (wr y)) :: r) σ) ∨ (∃ v x y r, (n, (8, v)) ∈ E.2.2.2.1 ∧ st = vL y :: vL x :: r ∧ (r.map vcat).sum ≤ 8 ∧ k (vL (max (wL x) (wL y)) :: r) σ) ∨ calS E n st σ k := by
  unfold calM at h
  split at h
  · rename_i v hv
    obtain ⟨y, r1, rfl, h1⟩ := pI_inv h
    obtain ⟨x, r, rfl, h2⟩ := pI_inv h1
    exact Or.inl ⟨v, x, y, r, lkK_mem hv, rfl, h2.1, h2.2⟩
  · rename_i v hv
    obtain ⟨y, r1, rfl, h1⟩ := pI_inv h
    obtain ⟨x, r, rfl, h2⟩ := pI_inv h1
    exact Or.inr (Or.inl ⟨v, x, y, r, lkK_mem hv, rfl, h2.1, h2.2⟩)
  · rename_i v hv
    obtain ⟨y, r1, rfl, h1⟩ := pL_inv h
    obtain ⟨x, r, rfl, h2⟩ := pL_inv h1
    exact Or.inr (Or.inr (Or.inl ⟨v, x, y, r, lkK_mem hv, rfl, h2.1, h2.2⟩))
  · exact Or.inr (Or.inr (Or.inr h))
theorem iI_max (x y : Int) : iI (max (wr x) (wr y)) = if iI x < iI y then iI y else iI x := by
  by_cases h : iI x < iI y
  · rw [if_pos h, Int.max_eq_right (Int.le_of_lt ((wr_lt x y).mp h)), iI_wr]
  · rw [if_neg h, Int.max_eq_left (Int.not_lt.mp (fun q => h ((wr_lt x y).mpr q))), iI_wr]
theorem iI_min (x y : Int) : iI (min (wr x) (wr y)) = if iI y < iI x then iI y else iI x := by
  by_cases h : iI y < iI x
  · rw [if_pos h, Int.min_eq_right (Int.le_of_lt ((wr_lt y x).mp h)), iI_wr]
  · rw [if_neg h, Int.min_eq_left (Int.not_lt.mp (fun q => h ((wr_lt y x).mpr q))), iI_wr]
theorem lI_max (x y : Int) : lI (max (wL x) (wL y)) = if lI y < lI x then lI x else lI y := by
  have hw : lI y < lI x ↔ wL y < wL x := by rw [← wL_def, ← wL_def]; exact Int64.lt_iff_toInt_lt
  by_cases h : lI y < lI x
  · rw [if_pos h, Int.max_eq_left (Int.le_of_lt (hw.mp h)), lI_wL]
  · rw [if_neg h, Int.max_eq_right (Int.not_lt.mp (fun q => h (hw.mpr q))), lI_wL]
theorem cat_sum {ad : Nat × Nat → Nat} {kd : Nat → Value} (hk : ∀ q, kd q = .null ∨ ∃ a, kd q = .ref a) (r : List Vl) : ((r.map (vv ad kd)).map fun v => v.category).sum = (r.map vcat).sum := by
  rw [List.map_map]
  congr 1
  exact List.map_congr_left fun q _ => vv_cat hk q
theorem all_good : ∀ w ∈ gtb, goodWord w = true := fun w h => (List.mem_filter.mp h).2
theorem goodIn_all {ws : List Cond} (h : ∀ w ∈ ws, w ∈ gtb) : GoodIn gtb ws := fun w hw => ⟨h w hw, good_of_word (all_good w (h w hw))⟩
theorem KC.same {ad : Nat × Nat → Nat} {kd : Nat → Value} {z : Nat} {s U : State} (hv : U.vm = s.vm) (hh : U.heap = s.heap) (h : KC ad kd z s s.heap) : KC ad kd z U U.heap := by
  have hvm : s.vm.Alike U.vm := by rw [hv]; exact Vm.Alike.refl s.vm
  rw [hh]
  obtain ⟨h1, h2, h3, h4, h5, h6⟩ := h
  refine ⟨h1, fun q hk => ?_, fun q hk => ?_, fun q hk => ?_, fun e he => (h5 e he).moved hvm, fun e he => ?_⟩
  · obtain ⟨t, a, b⟩ := h2 q hk
    exact ⟨t, a, b.moved hvm⟩
  · obtain ⟨t, a, b⟩ := h3 q hk
    exact ⟨t, a, b.moved hvm⟩
  · obtain ⟨t, a, b, c, d⟩ := h4 q hk
    exact ⟨t, a, b.moved hvm, c.moved hvm, d.moved hvm⟩
  · obtain ⟨t, a, b⟩ := h6 e he
    exact ⟨t, a, b.same hv⟩
theorem WD.blind {D : va_G} {ad : Nat × Nat → Nat} {cA : Nat → ClassId} {kd : Nat → Value} {z : Nat} {σ : Mem} {av : List Value} : FrameBlind (va_Pc av (fun U => WD D ad cA kd z σ U)) := by
  intro a U g mk q
  obtain ⟨rfl, hP, hK, hD, hKC⟩ := q
  exact ⟨rfl, hP, va_K.moved (u := U) (U := U.calling g mk _) (Vm.Alike.refl U.vm) hK, hD, KC.same (s := U) rfl rfl hKC⟩
section SI
variable {p : Program} {l : Launch} {e : Env} {R : Room} {s : State} {m : MethodId} {args : Array Value} {below : List Frame} {meth : Method} {c : Code} {cells slots : Nat} {Q : State → Prop}
variable {cc : ByteArray} {D : va_G} {ad : Nat × Nat → Nat} {cA : Nat → ClassId} {kd : Nat → Value} {z : Nat} {own : String} {E : EE} {d0 : Nat} {post : Pst} {P : Nat → List Vl → List Vl → Mem → Prop}
theorem jmp_sound {ls : Array Slot} {env : Lc} {st : List Vl} {σ : Mem} {H : Heap} {locs : List Loc} {t : Nat} (hl : lv_has ls E.1 (lm ad kd env)) (hI : IV D ad cA z s σ H locs)
    (hj : ∀ (t : Nat) (vals st' : List Vl) (σ' : Mem) (ls' : Array Slot) (H' : Heap) (locs' : List Loc) (b : List Nat × List Ent), lkB t E.2.1 = some b → lv_has ls' E.1 (lm ad kd (b.1.zip vals)) → IV D ad cA z s σ' H' locs' → P t vals st' σ' → W p l e R s m args below meth c H' locs' cells slots Q (F0 m t ls' (st'.map (vv ad kd))))
    (h : jmp E P t env st σ) : W p l e R s m args below meth c H locs cells slots Q (F0 m t ls (st.map (vv ad kd))) := by
  unfold jmp at h
  split at h
  · rename_i b hb
    obtain ⟨vals, h1, h2⟩ := coll_inv hl b.1 [] [] [] rfl ⟨hl.1, hl.2.1, fun q hq => by cases hq⟩ h
    exact hj t vals st σ ls H locs b hb h2 hI h1
  · exact h.elim
theorem swt_at {f : Nat → Prop} {x : Int} {pc : Nat} : ∀ (l : List Int) (i : Int) (k : Nat) (off : Int), swt f x pc l i → l[k]? = some off → x = i + k → f ((pc : Int) + off).toNat
  | [], _, _, _, _, h, _ => by simp at h
  | o :: r, i, 0, off, hs, h, hx => by
    simp at h
    subst h
    exact hs.1 (by omega)
  | o :: r, i, k + 1, off, hs, h, hx => by
    have h' : r[k]? = some off := by simpa using h
    exact swt_at r (i + 1) k off hs.2 h' (by omega)
theorem swl_at {f : Nat → Prop} {x : Int} {pc : Nat} {d : Int} : ∀ (l : List (Int × Int)), swl f x pc d l → f ((pc : Int) + Op.lookupswitch.offset l d x).toNat
  | [], h => h
  | q :: r, h => by
    rw [show q :: r = (q.1, q.2) :: r from rfl, Op.lookupswitch.offset_cons]
    by_cases e : x = q.1
    · rw [if_pos e.symm]
      exact h.1 e
    · rw [if_neg (fun z => e z.symm)]
      exact swl_at r (h.2 e)
theorem r_ldcwS {H : Heap} {locs : List Loc} {pc : Nat} {ls : Array Slot} {rest : List Value} (hexec : p.tables.exec = Jvm.exec) (hb : c.code = cc) {tx : String} {index q : Nat} (hown : s.vm.findClass own = some m.cls) (hZ : vk_R own index tx q s) (hdg : decode cc pc = .ok (.ldc_w index, 3))
    (k : W p l e R s m args below meth c H locs cells slots Q (F0 m (pc + 3) ls (.ref q :: rest))) : W p l e R s m args below meth c H locs cells slots Q (F0 m pc ls rest) := by
  intro T hT X
  obtain ⟨t, a1, b1⟩ := k T hT X
  refine ⟨t, ?_, b1⟩
  obtain ⟨k, cf, i, a', hk, hcf, hcp, -, hr, hev'⟩ := Cond.stringRef_spec hown hZ.1
  cases hZ.2.symm.trans hev'
  obtain ⟨k', hk', he⟩ := X.warmed.alike.2.2 _ _ hk
  have hr' : k'.resolved[index]? = some (some (.string q)) := by
    rcases X.warmed.entry hk hk' index with h | ⟨h, -⟩
    · rw [h]; exact hr
    · rw [hr] at h; cases h
  have hdg' : decode c.code pc = .ok (.ldc_w index, 3) := by rw [hb]; exact hdg
  jvm_step X.here [hexec, hdg', ldc_w.wp_string (e := e) (s := T) (f := F0 m pc ls rest) X.here.top hk' (by rw [he]; exact hcf) hcp hr']
  exact a1
theorem pre_of {σ : Mem} {H : Heap} {locs : List Loc} (hC : CX p R s m args c cells slots cc D ad cA kd z own E d0) (hI : IV D ad cA z s σ H locs) {U : State} (hU : U.heap = H) (hW : s.WarmedH U.vm) : WD D ad cA kd z σ U := by
  obtain ⟨-, ⟨hK, hD, hKC⟩, -⟩ := hC
  exact ⟨by rw [hU]; exact hI.1, va_K.moved hW.alike hK, hD, KC.moved hW (fun q h1 h2 => by rw [hU]; exact hI.2.2.1 q h1 h2) hKC⟩
theorem r_calV (hC : CX p R s m args c cells slots cc D ad cA kd z own E d0) {n : Nat} {ce : (Nat × (Nat × Nat)) × Cle} (hc : COK d0 own (n, ce)) {env : Lc} {ls : Array Slot} {σ : Mem} {H : Heap} {locs : List Loc} {as r : List Vl} {pc : Nat} (hl : lv_has ls E.1 (lm ad kd env)) (hI : IV D ad cA z s σ H locs) (hlen : as.length = ce.1.2.2) (h0 : ce.1.1 = 1 ∧ recvOK ce.1.2.1 as) (hW8 : ((r.map (vv ad kd)).map fun v => v.category).sum ≤ 8) {Qp : Pst} (h1 : ce.2 as σ Qp) (hd : decode cc pc = .ok (.invokevirtual n, 3))
    (kk : ∀ (v : Option Vl) (u : Mem) (H1 : Heap) (locs1 : List Loc), Qp v u → IV D ad cA z s u H1 locs1 → W p l e R s m args below meth c H1 locs1 cells slots Q (F0 m (pc + 3) ls ((v.map (vv ad kd)).toList ++ r.map (vv ad kd)))) : W p l e R s m args below meth c H locs cells slots Q (F0 m pc ls ((as.reverse ++ r).map (vv ad kd))) := by
  obtain ⟨⟨hx, hb, hml, hown, hts⟩, ⟨hK, hD, hKC⟩, -, ⟨⟨hR, hd0⟩, hcs⟩, -⟩ := id hC
  obtain ⟨y, b, maxL, ret, d, hM, hdd, hmx, w1, w2, w3, w4, w5 | ⟨w5, w6, w7, w8, w9, w10⟩⟩ := hc
  · exact absurd (w5.1.symm.trans h0.1) (by decide)
  dsimp only at w5 w6 w9 w10
  obtain ⟨hR1, hR2⟩ := hR d hdd
  have rec5 : ∃ (v0 : Vl) (As : List Vl) (b0 : Nat), as = v0 :: As ∧ vv ad kd v0 = .ref b0 ∧ ∃ cellB : Cell, H[b0]? = some cellB ∧ cellB.vm.isStatics = false ∧ s.vm.findClass y.cls = some cellB.cls := by
    have h2 := h0.2
    unfold recvOK at h2
    split at h2
    · rename_i o As
      rcases w10 with ⟨q1, -⟩ | ⟨T, N, q1⟩
      · exfalso
        have : cls o = 100 := by rw [h2, q1]
        rcases Nat.lt_or_ge o clsL.length with q | q
        · have h9 : ∀ o, o < clsL.length → cls o < 99 := by decide +kernel
          have := h9 o q
          omega
        · have : cls o = 99 := by unfold cls; rw [List.getD_eq_getElem?_getD, List.getElem?_eq_none q]; rfl
          omega
      · have hlt := vwCl_lt q1
        obtain ⟨q0, -, hq⟩ := wl_at ad cA σ (dom_obj o (cls_lt rfl (by omega)))
        exact ⟨_, As, _, rfl, rfl, va_recv hK hI.1 (ci := cls o) (by rw [h2]; exact q1) hq⟩
    · rename_i q As
      obtain ⟨a5, e5, e6, -⟩ := hKC.2.2.2.1 q h2.1
      rcases w10 with ⟨q1, q2⟩ | ⟨T, N, q1⟩
      · obtain ⟨cell, g1, g2, g3, -⟩ := e6.kept hI.2.2.1
        exact ⟨_, As, a5, rfl, e5, cell, g1, g2, by rw [q2]; exact g3⟩
      · exfalso
        have := vwCl_lt q1
        omega
    · exact h2.elim
  obtain ⟨v0, As, b0, rfl, e0, hrec⟩ := rec5
  have e1 : ((v0 :: As).reverse ++ r).map (vv ad kd) = (As.map (vv ad kd)).reverse ++ .ref b0 :: r.map (vv ad kd) := by
    rw [List.reverse_cons, List.map_append, List.map_append, List.map_reverse, List.append_assoc, ← e0]
    rfl
  rw [e1]
  have e2 : (v0 :: As).map (vv ad kd) = .ref b0 :: As.map (vv ad kd) := by rw [List.map_cons, e0]
  have hMM := hM l D ad cA kd z _ σ Qp h1
  rw [e2] at hMM
  refine callX (va_runV (As := As.map (vv ad kd)) (rest := r.map (vv ad kd)) (n := ce.1.2.2 - 1) ⟨hx, hb, hml, hown, hts⟩ hMM (cwV (C := y.cls) (ret := ret) (maxL := maxL) (bytes := b) (ce.1.2.2 - 1) hts (goodIn_all (fun w hw => ?_)) rfl rfl rfl ⟨rfl, w4.1, w4.2, w9⟩ ⟨hR1, by show 8 + (maxL + 11) + 40 * d ≤ _; omega⟩) ⟨WD.blind, hrec, fun U hU hW => ⟨rfl, pre_of hC hI hU hW⟩⟩ rfl (by rw [List.length_map]; rw [List.length_cons] at hlen; omega) hl.1 rfl (lv_room hW8) hd ⟨hcs.1, hcs.2⟩) hI.2 (fun _ q => q) kk
  unfold wsV at hw
  rcases List.mem_append.mp hw with q | q
  · simp only [List.mem_cons, List.not_mem_nil, or_false] at q
    rcases q with rfl | rfl | rfl | rfl
    · exact w2
    · exact w7
    · exact w8
    · exact w3
  · rcases List.mem_cons.mp q with rfl | q
    · exact w1
    · exact q
theorem r_calS (hC : CX p R s m args c cells slots cc D ad cA kd z own E d0) {n : Nat} {ce : (Nat × (Nat × Nat)) × Cle} (hc : COK d0 own (n, ce)) {env : Lc} {ls : Array Slot} {σ : Mem} {H : Heap} {locs : List Loc} {as r : List Vl} {pc : Nat} (hl : lv_has ls E.1 (lm ad kd env)) (hI : IV D ad cA z s σ H locs) (hlen : as.length = ce.1.2.2) (h0 : ce.1.1 = 0) (hW8 : ((r.map (vv ad kd)).map fun v => v.category).sum ≤ 8) {Qp : Pst} (h1 : ce.2 as σ Qp) (hd : decode cc pc = .ok (.invokestatic n, 3))
    (kk : ∀ (v : Option Vl) (u : Mem) (H1 : Heap) (locs1 : List Loc), Qp v u → IV D ad cA z s u H1 locs1 → W p l e R s m args below meth c H1 locs1 cells slots Q (F0 m (pc + 3) ls ((v.map (vv ad kd)).toList ++ r.map (vv ad kd)))) : W p l e R s m args below meth c H locs cells slots Q (F0 m pc ls ((as.reverse ++ r).map (vv ad kd))) := by
  obtain ⟨⟨hx, hb, hml, hown, hts⟩, ⟨hK, hD, hKC⟩, -, ⟨⟨hR, hd0⟩, hcs⟩, -⟩ := id hC
  obtain ⟨y, b, maxL, ret, d, hM, hdd, hmx, w1, w2, w3, w4, ⟨w5, w6, w9⟩ | w5⟩ := hc
  case inr => exact absurd (h0.symm.trans w5.1) (by decide)
  dsimp only at w9
  obtain ⟨hR1, hR2⟩ := hR d hdd
  have e1 : (as.reverse ++ r).map (vv ad kd) = (as.map (vv ad kd)).reverse ++ r.map (vv ad kd) := by
    rw [List.map_append, List.map_reverse]
  rw [e1]
  refine callX (va_runS (As := as.map (vv ad kd)) (rest := r.map (vv ad kd)) (n := ce.1.2.2) ⟨hx, hb, hml, hown, hts⟩ (hM l D ad cA kd z _ σ Qp h1) (va_cwS (ret := ret) (maxL := maxL) (bytes := b) ce.1.2.2 hts (goodIn_all (fun w hw => ?_)) rfl rfl rfl ⟨w4.1, w4.2, w9⟩ ⟨hR1, by show 8 + (maxL + 11) + 40 * d ≤ _; omega⟩) ⟨WD.blind, fun U hU hW => ⟨rfl, pre_of hC hI hU hW⟩⟩ rfl (by rw [List.length_map]; exact hlen) hl.1 rfl (lv_room hW8) hd ⟨hcs.1, hcs.2⟩) hI.2 (fun _ q => q) kk
  unfold va_wsS at hw
  rcases List.mem_append.mp hw with q | q
  · simp only [List.mem_cons, List.not_mem_nil, or_false] at q
    rcases q with rfl | rfl | rfl
    · exact w2
    · exact w6
    · exact w3
  · rcases List.mem_cons.mp q with rfl | q
    · exact w1
    · exact q
set_option maxHeartbeats 4000000 in
theorem ins_sound (hC : CX p R s m args c cells slots cc D ad cA kd z own E d0) {en : Ent} (hok : entOK cc en = true)
    {k : Lc → List Vl → Mem → Prop} {ls : Array Slot} {env : Lc} {st : List Vl} {σ : Mem} {H : Heap} {locs : List Loc}
    (hl : lv_has ls E.1 (lm ad kd env)) (hI : IV D ad cA z s σ H locs)
    (hk : ∀ (env' : Lc) (st' : List Vl) (σ' : Mem) (ls' : Array Slot) (H' : Heap) (locs' : List Loc), lv_has ls' E.1 (lm ad kd env') → IV D ad cA z s σ' H' locs' → k env' st' σ' → W p l e R s m args below meth c H' locs' cells slots Q (F0 m (en.1 + en.2.2.1) ls' (st'.map (vv ad kd))))
    (hj : ∀ (t : Nat) (vals st' : List Vl) (σ' : Mem) (ls' : Array Slot) (H' : Heap) (locs' : List Loc) (b : List Nat × List Ent), lkB t E.2.1 = some b → lv_has ls' E.1 (lm ad kd (b.1.zip vals)) → IV D ad cA z s σ' H' locs' → P t vals st' σ' → W p l e R s m args below meth c H' locs' cells slots Q (F0 m t ls' (st'.map (vv ad kd))))
    (hr : ∀ (v : Option Vl) (ins : Instr) (pc : Nat) (σ' : Mem) (ls' : Array Slot) (H' : Heap) (locs' : List Loc), ((ins = .ireturn ∧ ∃ x, v = some (vI x)) ∨ (ins = .lreturn ∧ ∃ x, v = some (vL x)) ∨ (ins = .areturn ∧ ∃ q, v = some (vC q)) ∨ (ins = .return_ ∧ v = none)) → decode cc pc = .ok (ins, 1) → IV D ad cA z s σ' H' locs' → post v σ' → W p l e R s m args below meth c H' locs' cells slots Q (F0 m pc ls' ((v.map (vv ad kd)).toList)))
    (h : ins1 E post P en env st σ k) : W p l e R s m args below meth c H locs cells slots Q (F0 m en.1 ls (st.map (vv ad kd))) := by
  obtain ⟨pc, ins, len, a, t⟩ := en
  obtain ⟨⟨hx, hb, hml, hown, hts⟩, ⟨hK, hD, hKC⟩, ⟨hF, hKK, hCC⟩, ⟨⟨hR, hd0⟩, hcs⟩, hX⟩ := id hC
  obtain ⟨hP, hS⟩ := id hI
  have hkd := hKC.1.1
  unfold entOK at hok
  dsimp only at hok
  rw [Bool.and_eq_true, decide_eq_true_eq] at hok
  obtain ⟨hd, him⟩ := hok
  dsimp only at hd him hk ⊢
  have hJ : ∀ {st' : List Vl}, jmp E P t env st' σ → W p l e R s m args below meth c H locs cells slots Q (F0 m t ls (st'.map (vv ad kd))) := fun h => jmp_sound hl hI hj h
  cases ins
  case iconst i =>
    simp only [immOK, Bool.and_eq_true, beq_iff_eq, decide_eq_true_eq] at him
    obtain ⟨rfl, h2⟩ := him
    exact lv_iconst hx hb hd h2 (hk env _ σ ls H locs hl hI h)
  case bipush i =>
    simp only [immOK, Bool.and_eq_true, beq_iff_eq, decide_eq_true_eq] at him
    obtain ⟨rfl, h2⟩ := him
    exact lv_bipush hx hb hd h2 (hk env _ σ ls H locs hl hI h)
  case sipush i =>
    simp only [immOK, Bool.and_eq_true, beq_iff_eq, decide_eq_true_eq] at him
    obtain ⟨rfl, h2⟩ := him
    exact lv_sipush hx hb hd h2 (hk env _ σ ls H locs hl hI h)
  case lconst i =>
    simp only [immOK, Bool.and_eq_true, beq_iff_eq, decide_eq_true_eq] at him
    obtain ⟨rfl, h2⟩ := him
    exact lv_lconst hx hb hd h2 (hk env _ σ ls H locs hl hI h)
  case ldc n =>
    simp only [immOK, beq_iff_eq] at him
    subst him
    rcases h with h | h
    · obtain ⟨v, h1, h2⟩ := ldK_inv (k := fun v => k env (v :: st) σ) h
      obtain ⟨x, e5, hm⟩ := hKK _ h1
      dsimp only at e5
      subst e5
      exact lv_ldc hx hb hown (hts _ hm) hd (hk env _ σ ls H locs hl hI h2)
    · obtain ⟨v, h1, h2⟩ := ldK_inv (k := fun v => k env (v :: st) σ) h
      obtain ⟨tx, q, rfl, hm⟩ := hKK _ h1
      obtain ⟨a5, e5, e6⟩ := hKC.2.2.2.2.2 _ hm
      have e7 : vv ad kd (vC q) = .ref a5 := e5
      have h5 := hk env _ σ ls H locs hl hI h2
      rw [List.map_cons, e7] at h5
      exact va_ldcS hx hb hown e6 hd h5
  case ldc_w n =>
    simp only [immOK, beq_iff_eq] at him
    subst him
    rcases h with h | h
    · obtain ⟨v, h1, h2⟩ := ldK_inv (k := fun v => k env (v :: st) σ) h
      obtain ⟨x, e5, hm⟩ := hKK _ h1
      dsimp only at e5
      subst e5
      exact lv_ldcw hx hb hown (hts _ hm) hd (hk env _ σ ls H locs hl hI h2)
    · obtain ⟨v, h1, h2⟩ := ldK_inv (k := fun v => k env (v :: st) σ) h
      obtain ⟨tx, q, rfl, hm⟩ := hKK _ h1
      obtain ⟨a5, e5, e6⟩ := hKC.2.2.2.2.2 _ hm
      have e7 : vv ad kd (vC q) = .ref a5 := e5
      have h5 := hk env _ σ ls H locs hl hI h2
      rw [List.map_cons, e7] at h5
      exact r_ldcwS hx hb hown e6 hd h5
  case ldc2_w n =>
    simp only [immOK, beq_iff_eq] at him
    subst him
    obtain ⟨v, h1, h2⟩ := ldK_inv (k := fun v => k env (v :: st) σ) h
    obtain ⟨x, e5, hm⟩ := hKK _ h1
    dsimp only at e5
    subst e5
    exact lv_ldc2 hx hb hown (hts _ hm) hd (hk env _ σ ls H locs hl hI h2)
  case getstatic n =>
    simp only [immOK, beq_iff_eq] at him
    subst him
    obtain ⟨v, h1, h2⟩ := ldK_inv (k := fun v => k env (v :: st) σ) h
    obtain ⟨C, nn, dd, hm, hlk⟩ := hKK _ h1
    exact va_gets hx hb (hKC.2.2.2.2.1 _ hm) hS hown (hts _ hlk) (fun _ q => q) hd (hk env _ σ ls H locs hl hI h2)
  case iload n =>
    simp only [immOK, beq_iff_eq] at him
    subst him
    obtain ⟨x, h1, h2⟩ := gI_inv h
    exact lv_iload hx hb hd (lget_at hl h1) (hk env _ σ ls H locs hl hI h2)
  case iload_n n =>
    simp only [immOK, beq_iff_eq] at him
    subst him
    obtain ⟨x, h1, h2⟩ := gI_inv h
    exact lv_iload_n hx hb hd rfl (lget_at hl h1) (hk env _ σ ls H locs hl hI h2)
  case lload n =>
    simp only [immOK, beq_iff_eq] at him
    subst him
    obtain ⟨x, h1, h2⟩ := gL_inv h
    exact lv_lload hx hb hd (lget_at hl h1) (hk env _ σ ls H locs hl hI h2)
  case lload_n n =>
    simp only [immOK, beq_iff_eq] at him
    subst him
    obtain ⟨x, h1, h2⟩ := gL_inv h
    exact lv_lload_n hx hb hd rfl (lget_at hl h1) (hk env _ σ ls H locs hl hI h2)
  case aload n =>
    simp only [immOK, beq_iff_eq] at him
    subst him
    obtain ⟨v, h1, h2, h3⟩ := gA_inv (k := fun v => k env (v :: st) σ) h
    have h4 := lget_at hl h1
    have h5 := hk env _ σ ls H locs hl hI h2
    rcases h3 with ⟨d, rfl⟩ | ⟨q, rfl, hq⟩
    · exact lv_aload hx hb hd h4 h5
    · obtain ⟨a5, e5⟩ := hKC.1.2 q hq
      have e6 : vv ad kd (vC q) = .ref a5 := e5
      rw [e6] at h4
      rw [List.map_cons, e6] at h5
      exact lv_aload hx hb hd h4 h5
  case aload_n n =>
    simp only [immOK, beq_iff_eq] at him
    subst him
    obtain ⟨v, h1, h2, h3⟩ := gA_inv (k := fun v => k env (v :: st) σ) h
    have h4 := lget_at hl h1
    have h5 := hk env _ σ ls H locs hl hI h2
    rcases h3 with ⟨d, rfl⟩ | ⟨q, rfl, hq⟩
    · exact lv_aload_n hx hb hd rfl h4 h5
    · obtain ⟨a5, e5⟩ := hKC.1.2 q hq
      have e6 : vv ad kd (vC q) = .ref a5 := e5
      rw [e6] at h4
      rw [List.map_cons, e6] at h5
      exact lv_aload_n hx hb hd rfl h4 h5
  case istore n =>
    simp only [immOK, beq_iff_eq] at him
    subst him
    obtain ⟨x, r, rfl, h1, h2⟩ := pI_inv h
    exact lv_istore hx hb hd hl h1 (lm_set1 hkd env n (vI x)) (fun ls' hl' => hk _ _ σ ls' H locs hl' hI h2)
  case istore_n n =>
    simp only [immOK, beq_iff_eq] at him
    subst him
    obtain ⟨x, r, rfl, h1, h2⟩ := pI_inv h
    exact lv_istore_n hx hb hd rfl hl h1 (lm_set1 hkd env n (vI x)) (fun ls' hl' => hk _ _ σ ls' H locs hl' hI h2)
  case lstore n =>
    simp only [immOK, beq_iff_eq] at him
    subst him
    obtain ⟨x, r, rfl, h1, h2⟩ := pL_inv h
    exact lv_lstore hx hb hd hl h1 (lm_set2 hkd env n (vL x)) (fun ls' hl' => hk _ _ σ ls' H locs hl' hI h2)
  case lstore_n n =>
    simp only [immOK, beq_iff_eq] at him
    subst him
    obtain ⟨x, r, rfl, h1, h2⟩ := pL_inv h
    exact lv_lstore_n hx hb hd rfl hl h1 (lm_set2 hkd env n (vL x)) (fun ls' hl' => hk _ _ σ ls' H locs hl' hI h2)
  case astore n =>
    simp only [immOK, beq_iff_eq] at him
    subst him
    obtain ⟨v, r, rfl, ⟨h1, h3⟩, h2⟩ := pV_inv h
    split at h3
    · rename_i d
      exact lv_astore hx hb hd hl h1 (lm_set1 hkd env n (.inr (.inr (.inl (some d))))) (fun ls' hl' => hk _ _ σ ls' H locs hl' hI h2)
    · exact h3.elim
  case astore_n n =>
    simp only [immOK, beq_iff_eq] at him
    subst him
    obtain ⟨v, r, rfl, ⟨h1, h3⟩, h2⟩ := pV_inv h
    split at h3
    · rename_i d
      exact lv_astore_n hx hb hd rfl hl h1 (lm_set1 hkd env n (.inr (.inr (.inl (some d))))) (fun ls' hl' => hk _ _ σ ls' H locs hl' hI h2)
    · exact h3.elim
  case iinc n i =>
    simp only [immOK, Bool.and_eq_true, beq_iff_eq, decide_eq_true_eq] at him
    obtain ⟨rfl, h0⟩ := him
    obtain ⟨x, h1, h2, h3⟩ := gI_inv h
    obtain ⟨k5, hk5⟩ : ∃ k5, (lm ad kd env)[k5]? = some (n, Value.int (iI x)) := by
      have hm : (n, vI x) ∈ env := lget_mem h1
      exact List.getElem?_of_mem (List.mem_map.mpr ⟨(n, vI x), hm, rfl⟩)
    exact lv_iinc hx hb hd hl hk5 (v := iI (x + a)) (by rw [iI_add, h0]) h2 (lm_set1 hkd env n (vI (x + a))) (fun ls' hl' => hk _ _ σ ls' H locs hl' hI h3)
  case iadd =>
    simp only [immOK, beq_iff_eq] at him
    subst him
    obtain ⟨y, r, rfl, h⟩ := pI_inv h
    obtain ⟨x, r, rfl, h⟩ := pI_inv h
    have h1 := hk env _ σ ls H locs hl hI h
    refine lv_iadd hx hb hd ?_
    rw [← iI_add]
    exact h1
  case isub =>
    simp only [immOK, beq_iff_eq] at him
    subst him
    obtain ⟨y, r, rfl, h⟩ := pI_inv h
    obtain ⟨x, r, rfl, h⟩ := pI_inv h
    have h1 := hk env _ σ ls H locs hl hI h
    refine lv_isub hx hb hd ?_
    rw [← iI_sub]
    exact h1
  case imul =>
    simp only [immOK, beq_iff_eq] at him
    subst him
    obtain ⟨y, r, rfl, h⟩ := pI_inv h
    obtain ⟨x, r, rfl, h⟩ := pI_inv h
    have h1 := hk env _ σ ls H locs hl hI h
    refine lv_imul hx hb hd ?_
    rw [← iI_mul]
    exact h1
  case idiv =>
    simp only [immOK, beq_iff_eq] at him
    subst him
    obtain ⟨y, r, rfl, h⟩ := pI_inv h
    obtain ⟨x, r, rfl, h0, h⟩ := pI_inv h
    have h1 := hk env _ σ ls H locs hl hI h
    refine lv_idiv hx hb hd (fun q => h0 ((wr_eq0 _).mp q)) ?_
    rw [← iI_toInt (iI x / iI y)]
    exact h1
  case irem =>
    simp only [immOK, beq_iff_eq] at him
    subst him
    obtain ⟨y, r, rfl, h⟩ := pI_inv h
    obtain ⟨x, r, rfl, h0, h⟩ := pI_inv h
    have h1 := hk env _ σ ls H locs hl hI h
    refine lv_irem hx hb hd (fun q => h0 ((wr_eq0 _).mp q)) ?_
    rw [← iI_toInt (iI x - iI x / iI y * iI y)]
    exact h1
  case iand =>
    simp only [immOK, beq_iff_eq] at him
    subst him
    obtain ⟨y, r, rfl, h⟩ := pI_inv h
    obtain ⟨x, r, rfl, h⟩ := pI_inv h
    have h1 := hk env _ σ ls H locs hl hI h
    refine lv_iand hx hb hd ?_
    rw [← iI_toInt (iI x &&& iI y)]
    exact h1
  case ior =>
    simp only [immOK, beq_iff_eq] at him
    subst him
    obtain ⟨y, r, rfl, h⟩ := pI_inv h
    obtain ⟨x, r, rfl, h⟩ := pI_inv h
    have h1 := hk env _ σ ls H locs hl hI h
    refine lv_ior hx hb hd ?_
    rw [← iI_toInt (iI x ||| iI y)]
    exact h1
  case ixor =>
    simp only [immOK, beq_iff_eq] at him
    subst him
    obtain ⟨y, r, rfl, h⟩ := pI_inv h
    obtain ⟨x, r, rfl, h⟩ := pI_inv h
    have h1 := hk env _ σ ls H locs hl hI h
    refine lv_ixor hx hb hd ?_
    rw [← iI_toInt (iI x ^^^ iI y)]
    exact h1
  case ishl =>
    simp only [immOK, beq_iff_eq] at him
    subst him
    obtain ⟨y, r, rfl, h⟩ := pI_inv h
    obtain ⟨x, r, rfl, h⟩ := pI_inv h
    have h1 := hk env _ σ ls H locs hl hI h
    refine lv_ishl hx hb hd ?_
    rw [← iI_toInt (iI x <<< (iI y &&& 31))]
    exact h1
  case ishr =>
    simp only [immOK, beq_iff_eq] at him
    subst him
    obtain ⟨y, r, rfl, h⟩ := pI_inv h
    obtain ⟨x, r, rfl, h⟩ := pI_inv h
    have h1 := hk env _ σ ls H locs hl hI h
    refine lv_ishr hx hb hd ?_
    rw [← iI_toInt (iI x >>> (iI y &&& 31))]
    exact h1
  case land =>
    simp only [immOK, beq_iff_eq] at him
    subst him
    obtain ⟨y, r, rfl, h⟩ := pL_inv h
    obtain ⟨x, r, rfl, h⟩ := pL_inv h
    have h1 := hk env _ σ ls H locs hl hI h
    refine lv_land hx hb hd ?_
    rw [← lI_toInt (lI x &&& lI y)]
    exact h1
  case lor =>
    simp only [immOK, beq_iff_eq] at him
    subst him
    obtain ⟨y, r, rfl, h⟩ := pL_inv h
    obtain ⟨x, r, rfl, h⟩ := pL_inv h
    have h1 := hk env _ σ ls H locs hl hI h
    refine lv_lor hx hb hd ?_
    rw [← lI_toInt (lI x ||| lI y)]
    exact h1
  case iushr =>
    simp only [immOK, beq_iff_eq] at him
    subst him
    obtain ⟨y, r, rfl, h⟩ := pI_inv h
    obtain ⟨x, r, rfl, h⟩ := pI_inv h
    exact lv_iushr hx hb hd (iI_toInt _).symm (hk env _ σ ls H locs hl hI h)
  case ladd =>
    simp only [immOK, beq_iff_eq] at him
    subst him
    obtain ⟨y, r, rfl, h⟩ := pL_inv h
    obtain ⟨x, r, rfl, h⟩ := pL_inv h
    have h1 := hk env _ σ ls H locs hl hI h
    refine lv_ladd hx hb hd ?_
    rw [← lI_add]
    exact h1
  case lsub =>
    simp only [immOK, beq_iff_eq] at him
    subst him
    obtain ⟨y, r, rfl, h⟩ := pL_inv h
    obtain ⟨x, r, rfl, h⟩ := pL_inv h
    have h1 := hk env _ σ ls H locs hl hI h
    refine lv_lsub hx hb hd ?_
    rw [← lI_sub]
    exact h1
  case lmul =>
    simp only [immOK, beq_iff_eq] at him
    subst him
    obtain ⟨y, r, rfl, h⟩ := pL_inv h
    obtain ⟨x, r, rfl, h⟩ := pL_inv h
    have h1 := hk env _ σ ls H locs hl hI h
    refine lv_lmul hx hb hd ?_
    rw [← lI_mul]
    exact h1
  case ldiv =>
    simp only [immOK, beq_iff_eq] at him
    subst him
    obtain ⟨y, r, rfl, h⟩ := pL_inv h
    obtain ⟨x, r, rfl, h0, h⟩ := pL_inv h
    have h1 := hk env _ σ ls H locs hl hI h
    refine lv_ldiv hx hb hd (fun q => h0 ((wL_eq0 _).mp q)) ?_
    rw [← lI_toInt (lI x / lI y)]
    exact h1
  case lrem =>
    simp only [immOK, beq_iff_eq] at him
    subst him
    obtain ⟨y, r, rfl, h⟩ := pL_inv h
    obtain ⟨x, r, rfl, h0, h⟩ := pL_inv h
    have h1 := hk env _ σ ls H locs hl hI h
    refine lv_lrem hx hb hd (fun q => h0 ((wL_eq0 _).mp q)) ?_
    rw [← lI_toInt (lI x - lI x / lI y * lI y)]
    exact h1
  case lcmp =>
    simp only [immOK, beq_iff_eq] at him
    subst him
    obtain ⟨y, r, rfl, h⟩ := pL_inv h
    obtain ⟨x, r, rfl, h⟩ := pL_inv h
    have h1 := hk env _ σ ls H locs hl hI h
    refine W.lcmp hx hb hd ?_
    rw [← iI_toInt (lg_cmp (lI x) (lI y))]
    exact h1
  case i2l =>
    simp only [immOK, beq_iff_eq] at him
    subst him
    obtain ⟨x, r, rfl, h⟩ := pI_inv h
    exact lv_i2l hx hb hd (lI_wr x).symm (hk env _ σ ls H locs hl hI h)
  case l2i =>
    simp only [immOK, beq_iff_eq] at him
    subst him
    obtain ⟨x, r, rfl, h⟩ := pL_inv h
    exact lv_l2i hx hb hd (iI_l x) (hk env _ σ ls H locs hl hI h)
  case i2b =>
    simp only [immOK, beq_iff_eq] at him
    subst him
    obtain ⟨x, r, rfl, h⟩ := pI_inv h
    exact lv_i2b hx hb hd (iI_toInt _).symm (hk env _ σ ls H locs hl hI h)
  case i2c =>
    simp only [immOK, beq_iff_eq] at him
    subst him
    obtain ⟨x, r, rfl, h⟩ := pI_inv h
    exact lv_i2c hx hb hd (iI_toInt _).symm (hk env _ σ ls H locs hl hI h)
  case dup =>
    simp only [immOK, beq_iff_eq] at him
    subst him
    obtain ⟨v, r, rfl, h0, h⟩ := pV_inv h
    exact lv_dup hx hb hd (by rw [vv_cat hkd]; exact h0) (hk env _ σ ls H locs hl hI h)
  case pop =>
    simp only [immOK, beq_iff_eq] at him
    subst him
    obtain ⟨v, r, rfl, h0, h⟩ := pV_inv h
    exact lv_pop hx hb hd (by rw [vv_cat hkd]; exact h0) (hk env _ σ ls H locs hl hI h)
  case dup2 =>
    simp only [immOK, beq_iff_eq] at him
    subst him
    rcases dup2_inv (k := fun st => k env st σ) h with ⟨x, r, rfl, h1⟩ | ⟨x, y, r, rfl, h0, h1⟩
    · exact lv_dup2_2 hx hb hd rfl (hk env _ σ ls H locs hl hI h1)
    · exact lv_dup2_11 hx hb hd (by rw [vv_cat hkd]; exact h0.1) (by rw [vv_cat hkd]; exact h0.2) (hk env _ σ ls H locs hl hI h1)
  case ifCond cnd off =>
    simp only [immOK, Bool.and_eq_true, beq_iff_eq, decide_eq_true_eq] at him
    obtain ⟨rfl, h0⟩ := him
    obtain ⟨x, r, rfl, h1, h2⟩ := pI_inv h
    have hF' := fun q => hk env r σ ls H locs hl hI (h2 q)
    have hT' := fun q => hJ (h1 q)
    cases cnd
    · exact lv_if_eq hx hb hd h0 (fun q => hT' ((wr_eq0 x).mp q)) (fun q => hF' (fun w => q ((wr_eq0 x).mpr w)))
    · exact lv_if_ne hx hb hd h0 (fun q => hT' (fun w => q ((wr_eq0 x).mpr w))) (fun q => hF' (fun w => w ((wr_eq0 x).mp q)))
    · exact lv_if_lt hx hb hd h0 (fun q => hT' ((wr_lt0 x).mp q)) (fun q => hF' (fun w => q ((wr_lt0 x).mpr w)))
    · exact lv_if_ge hx hb hd h0 (fun q => hT' ((wr_ge0 x).mp q)) (fun q => hF' (fun w => q ((wr_ge0 x).mpr w)))
    · exact lv_if_gt hx hb hd h0 (fun q => hT' ((wr_gt0 x).mp q)) (fun q => hF' (fun w => q ((wr_gt0 x).mpr w)))
    · exact lv_if_le hx hb hd h0 (fun q => hT' ((wr_le0 x).mp q)) (fun q => hF' (fun w => q ((wr_le0 x).mpr w)))
  case if_icmp cnd off =>
    simp only [immOK, Bool.and_eq_true, beq_iff_eq, decide_eq_true_eq] at him
    obtain ⟨rfl, h0⟩ := him
    obtain ⟨y, r, rfl, h⟩ := pI_inv h
    obtain ⟨x, r, rfl, h1, h2⟩ := pI_inv h
    have hF' := fun q => hk env r σ ls H locs hl hI (h2 q)
    have hT' := fun q => hJ (h1 q)
    cases cnd
    · exact lv_icmp_eq hx hb hd h0 (fun q => hT' ((wr_eq x y).mp q)) (fun q => hF' (fun w => q ((wr_eq x y).mpr w)))
    · exact lv_icmp_ne hx hb hd h0 (fun q => hT' (fun w => q ((wr_eq x y).mpr w))) (fun q => hF' (fun w => w ((wr_eq x y).mp q)))
    · exact lv_icmp_lt hx hb hd h0 (fun q => hT' ((wr_lt x y).mp q)) (fun q => hF' (fun w => q ((wr_lt x y).mpr w)))
    · exact lv_icmp_ge hx hb hd h0 (fun q => hT' ((wr_le y x).mp q)) (fun q => hF' (fun w => q ((wr_le y x).mpr w)))
    · exact lv_icmp_gt hx hb hd h0 (fun q => hT' ((wr_lt y x).mp q)) (fun q => hF' (fun w => q ((wr_lt y x).mpr w)))
    · exact lv_icmp_le hx hb hd h0 (fun q => hT' ((wr_le x y).mp q)) (fun q => hF' (fun w => q ((wr_le x y).mpr w)))
  case goto off =>
    simp only [immOK, Bool.and_eq_true, beq_iff_eq, decide_eq_true_eq] at him
    obtain ⟨rfl, h0⟩ := him
    exact lv_goto hx hb hd h0 (hJ h)
  case tableswitch d lo hi offs =>
    simp only [immOK, Bool.and_eq_true, decide_eq_true_eq, List.all_eq_true] at him
    obtain ⟨⟨h0, h1⟩, h2⟩ := him
    obtain ⟨x, r, rfl, h3, h4⟩ := pI_inv h
    by_cases q : wr x < lo ∨ hi < wr x
    · exact lv_tableOut hx hb hd (by rw [wr_def]; exact q) (Int.toNat_of_nonneg h0).symm (jmp_sound hl hI hj (h4 q))
    · have q1 : ¬ wr x < lo := fun w => q (Or.inl w)
      have q2 : ¬ hi < wr x := fun w => q (Or.inr w)
      have hlt : (wr x - lo).toNat < offs.toList.length := by omega
      have ho : offs.toList[(wr x - lo).toNat]? = some offs.toList[(wr x - lo).toNat] := List.getElem?_eq_getElem hlt
      have hp := h1 _ (List.getElem_mem hlt)
      refine lv_tableIn hx hb hd (by rw [wr_def]; exact q1) (by rw [wr_def]; exact q2) (off := offs.toList[(wr x - lo).toNat]) (by rw [wr_def, ← Array.getElem?_toList]; exact ho) (Int.toNat_of_nonneg hp).symm (jmp_sound hl hI hj ?_)
      exact swt_at _ _ _ _ h3 ho (by omega)
  case lookupswitch d ps =>
    simp only [immOK, Bool.and_eq_true, decide_eq_true_eq] at him
    obtain ⟨⟨h0, h1⟩, h2⟩ := him
    obtain ⟨x, r, rfl, h3⟩ := pI_inv h
    have h4 := swl_at ps.toList h3
    have h5 := swl_nn (pc := pc) (d := d) (x := wr x) h0 ps.toList (fun q hq => of_decide_eq_true (List.all_eq_true.mp h1 q hq))
    exact lv_lookup hx hb hd h2 (off := Op.lookupswitch.offset ps.toList d (wr x)) (by rw [wr_def]) (Int.toNat_of_nonneg h5).symm (jmp_sound hl hI hj h4)
  case getfield n =>
    simp only [immOK, beq_iff_eq] at him
    subst him
    rcases getF_inv (k := fun st => k env st σ) h with ⟨f, o, r, hf, rfl, h1, h2⟩ | ⟨v, q, r, hf, rfl, h1, h2⟩ | ⟨v, q, r, hf, rfl, h1, h2⟩
    · exact r_get hx hb hts hown hK hP (hF _ hf) h1 hd (hk env _ σ ls H locs hl hI h2)
    · obtain ⟨a5, e5, e6, e7, e8⟩ := hKC.2.2.2.1 q h1
      have e9 : (vC q :: r).map (vv ad kd) = .ref a5 :: r.map (vv ad kd) := by rw [List.map_cons, ← e5]; rfl
      rw [e9]
      exact vk_getf hx hb e7 hS hown (hts _ (hKK _ hf)) (fun _ q => q) hd (hk env _ σ ls H locs hl hI h2)
    · obtain ⟨a5, e5, e6, e7, e8⟩ := hKC.2.2.2.1 q h1
      have e9 : (vC q :: r).map (vv ad kd) = .ref a5 :: r.map (vv ad kd) := by rw [List.map_cons, ← e5]; rfl
      rw [e9]
      exact vk_getf hx hb e8 hS hown (hts _ (hKK _ hf)) (fun _ q => q) hd (hk env _ σ ls H locs hl hI h2)
  case putfield n =>
    simp only [immOK, beq_iff_eq] at him
    subst him
    rcases putF_inv (k := fun st σ => k env st σ) h with ⟨f, x, o, r, hf, rfl, h1, h2, h3⟩ | ⟨f, x, o, r, hf, rfl, h1, h2, h3⟩
    · obtain ⟨ci, j⟩ := f
      dsimp only at h1
      subst h1
      rcases h2 with h2 | ⟨h2, h4⟩
      · exact r_put hx hb hts hown hK hD hP hS (hF _ hf) rfl (ty := .int) (v := .int (iI x)) (by rw [h2]; decide) (by unfold fieldV; dsimp only at h2 ⊢; simp only [h2, upd_same]) (fun d fin q => by unfold kindOK at q; rw [h2] at q; simp at q; exact ⟨by rw [q.1]; decide +kernel, q.2⟩) rfl rfl hd (fun H1 locs1 a1 a2 => hk env _ _ ls H1 locs1 hl ⟨a1, a2⟩ h3)
      · exact r_put hx hb hts hown hK hD hP hS (hF _ hf) rfl (ty := .boolean) (v := .int (iI x)) (by rw [h2]; decide) (by unfold fieldV; dsimp only at h2 ⊢; simp only [h2, upd_same]) (fun d fin q => by unfold kindOK at q; rw [h2] at q; simp at q; exact ⟨by rw [q.1]; decide +kernel, q.2⟩) (nar_Z h4) (fit_Z h4) hd (fun H1 locs1 a1 a2 => hk env _ _ ls H1 locs1 hl ⟨a1, a2⟩ h3)
    · obtain ⟨ci, j⟩ := f
      dsimp only at h1
      subst h1
      exact r_put hx hb hts hown hK hD hP hS (hF _ hf) rfl (ty := .long) (v := .long (lI x)) (by rw [h2]; decide) (by unfold fieldV; dsimp only at h2 ⊢; simp only [h2, upd_same]) (fun d fin q => by unfold kindOK at q; rw [h2] at q; simp at q; exact ⟨by rw [q.1]; decide +kernel, q.2⟩) rfl rfl hd (fun H1 locs1 a1 a2 => hk env _ _ ls H1 locs1 hl ⟨a1, a2⟩ h3)
  case iaload =>
    simp only [immOK, beq_iff_eq] at him
    subst him
    rcases aLd_inv (k := fun st => k env st σ) h with ⟨i, o, j, r, n, rfl, h1, h2, h3⟩ | ⟨i, r, rfl, h1, h2, h3⟩ | ⟨i, q, r, rfl, h1, h2, h3⟩
    · exact r_iald hx hb hK hP h1 h2 hd (hk env _ σ ls H locs hl hI h3)
    · obtain ⟨b5, e5, e6, e7, e8⟩ := hX (by omega)
      have e9 : (vI i :: vC 7 :: r).map (vv ad kd) = .int (iI i) :: .ref b5 :: r.map (vv ad kd) := by rw [List.map_cons, List.map_cons, ← e5]; rfl
      rw [e9]
      have hin : vp_in (iI i) (E.2.2.2.2.2.1 - 1) := ix_in ⟨h2.1, by omega⟩
      refine va_sld hx hb e6 e7 e8 hS hin hd ?_
      have e10 : (iI i).toNatClampNeg = (wr i).toNat := by rw [← wr_def]; rfl
      rw [e10]
      exact hk env _ σ ls H locs hl hI h3
    · obtain ⟨t5, e5, e6⟩ := hKC.2.1 q h1.1
      have e9 : (vI i :: vC q :: r).map (vv ad kd) = .int (iI i) :: .ref t5 :: r.map (vv ad kd) := by rw [List.map_cons, List.map_cons, ← e5]; rfl
      rw [e9]
      exact va_ti hx hb e6 hS (ix_in h2) (v := .int (iI (cval q (wr i)))) (by rw [ix_at h2.1]) hd (hk env _ σ ls H locs hl hI h3)
  case laload =>
    simp only [immOK, beq_iff_eq] at him
    subst him
    rcases aLd_inv (k := fun st => k env st σ) h with ⟨i, o, j, r, n, rfl, h1, h2, h3⟩ | ⟨i, r, rfl, h1, h2, h3⟩ | ⟨i, q, r, rfl, h1, h2, h3⟩
    · exact r_lald hx hb hK hP h1 h2 hd (hk env _ σ ls H locs hl hI h3)
    · exact absurd h1 (by decide)
    · exact absurd h1.2 (by decide)
  case baload =>
    simp only [immOK, beq_iff_eq] at him
    subst him
    rcases bLd_inv (k := fun st => k env st σ) h with ⟨i, o, j, r, kd0, n, rfl, h0, h1, h2, h3⟩ | ⟨i, q, r, rfl, h1, h2, h3⟩
    · exact r_bald hx hb hK hP h0 h1 h2 hd (hk env _ σ ls H locs hl hI h3)
    · obtain ⟨t5, e5, e6⟩ := hKC.2.2.1 q h1
      have e9 : (vI i :: vC q :: r).map (vv ad kd) = .int (iI i) :: .ref t5 :: r.map (vv ad kd) := by rw [List.map_cons, List.map_cons, ← e5]; rfl
      rw [e9]
      exact va_tb hx hb e6 hS (ix_in h2) (v := .int (iI (cval q (wr i)))) (by rw [ix_at h2.1]) hd (hk env _ σ ls H locs hl hI h3)
  case aaload =>
    simp only [immOK, beq_iff_eq] at him
    subst him
    obtain ⟨i, o, j, r, kd0, n, rfl, h0, h1, h2, h3⟩ := aLdR_inv (k := fun st => k env st σ) h
    exact r_aald hx hb hK hP h0 h1 h2 hd (hk env _ σ ls H locs hl hI h3)
  case iastore =>
    simp only [immOK, beq_iff_eq] at him
    subst him
    obtain ⟨x, i, o, j, r, n, rfl, h1, h2, h3⟩ := iSt_inv (k := fun st σ => k env st σ) h
    exact r_iast hx hb hK hD hP hS h1 h2 hd (fun H1 locs1 a1 a2 => hk env _ _ ls H1 locs1 hl ⟨a1, a2⟩ h3)
  case lastore =>
    simp only [immOK, beq_iff_eq] at him
    subst him
    obtain ⟨x, i, o, j, r, n, rfl, h1, h2, h3⟩ := lSt_inv (k := fun st σ => k env st σ) h
    exact r_last hx hb hK hD hP hS h1 h2 hd (fun H1 locs1 a1 a2 => hk env _ _ ls H1 locs1 hl ⟨a1, a2⟩ h3)
  case bastore =>
    simp only [immOK, beq_iff_eq] at him
    subst him
    rcases bSt_inv (k := fun st σ => k env st σ) h with ⟨x, i, o, j, r, kd0, n, rfl, h0, h1, h2, h3⟩ | ⟨x, i, o, j, r, n, rfl, h1, h2, h3⟩
    · exact r_bast hx hb hK hD hP hS h0 h1 h2 hd (fun H1 locs1 a1 a2 => hk env _ _ ls H1 locs1 hl ⟨a1, a2⟩ h3)
    · exact r_bastZ hx hb hK hD hP hS h1 h2 hd (fun y y1 y2 H1 locs1 a1 a2 => hk env _ _ ls H1 locs1 hl ⟨a1, a2⟩ (h3 y y1 y2))
  case arraylength =>
    simp only [immOK, beq_iff_eq] at him
    subst him
    rcases aLen_inv (k := fun st => k env st σ) h with ⟨o, j, r, kd0, n, rfl, h1, h2, h3⟩ | ⟨r, rfl, h1, h3⟩ | ⟨q, r, rfl, h1, h3⟩
    · exact r_alen hx hb hK hP h1 h2 hd (hk env _ σ ls H locs hl hI h3)
    · obtain ⟨b5, e5, e6, e7, e8⟩ := hX h1
      have e9 : (vC 7 :: r).map (vv ad kd) = .ref b5 :: r.map (vv ad kd) := by rw [List.map_cons, ← e5]; rfl
      rw [e9]
      refine va_slen hx hb e6 e7 e8 hS hd ?_
      have e10 : Int32.ofNat (E.2.2.2.2.2.1 - 1) = iI ((E.2.2.2.2.2.1 : Int) - 1) := by
        rw [show ((E.2.2.2.2.2.1 : Int) - 1) = ((E.2.2.2.2.2.1 - 1 : Nat) : Int) by omega]
        exact (Int32.ofInt_eq_ofNat (n := E.2.2.2.2.2.1 - 1)).symm
      rw [e10]
      exact hk env _ σ ls H locs hl hI h3
    · have h5 := hk env _ σ ls H locs hl hI h3
      have e10 : Int32.ofNat (clen q) = iI (clen q) := (Int32.ofInt_eq_ofNat (n := clen q)).symm
      rcases h1 with h1 | h1
      · obtain ⟨t5, e5, e6⟩ := hKC.2.1 q h1
        have e9 : (vC q :: r).map (vv ad kd) = .ref t5 :: r.map (vv ad kd) := by rw [List.map_cons, ← e5]; rfl
        rw [e9]
        exact va_tlen hx hb e6 hS e10 hd h5
      · obtain ⟨t5, e5, e6⟩ := hKC.2.2.1 q h1
        have e9 : (vC q :: r).map (vv ad kd) = .ref t5 :: r.map (vv ad kd) := by rw [List.map_cons, ← e5]; rfl
        rw [e9]
        exact va_tlen hx hb e6 hS e10 hd h5
  case invokevirtual n =>
    simp only [immOK, beq_iff_eq] at him
    subst him
    obtain ⟨ce, as, r, hce, rfl, hlen, h0, hW8, Qp, h1, h2⟩ := calV_inv (k := fun st σ => k env st σ) h
    exact r_calV hC (hCC _ hce) hl hI hlen h0 (by rw [cat_sum hkd]; exact hW8) h1 hd (fun v u H1 locs1 q i => by
      have h5 := hk env _ u ls H1 locs1 hl i (h2 v u q)
      rw [List.map_append] at h5
      cases v <;> exact h5)
  case invokestatic n =>
    simp only [immOK, beq_iff_eq] at him
    subst him
    obtain ⟨f1, f2⟩ := hR 0 hd0
    rcases calM_inv (k := fun st σ => k env st σ) h with ⟨v, x, y, r, hm, rfl, h8, h2⟩ | ⟨v, x, y, r, hm, rfl, h8, h2⟩ | ⟨v, x, y, r, hm, rfl, h8, h2⟩ | h
    · obtain ⟨w1, w2, w3, w4⟩ := hKK _ hm
      have h5 := hk env _ σ ls H locs hl hI h2
      refine va_mmax hx hb (hml.trans hl.1.symm) hown (hts _ w1) (hts _ w2) (hts _ w3) (hts _ w4) (by omega) (by rw [cat_sum hkd]; omega) hcs.1 hcs.2 hd ?_
      rw [← iI_max]
      exact h5
    · obtain ⟨w1, w2, w3, w4⟩ := hKK _ hm
      have h5 := hk env _ σ ls H locs hl hI h2
      refine va_mmin hx hb (hml.trans hl.1.symm) hown (hts _ w1) (hts _ w2) (hts _ w3) (hts _ w4) (by omega) (by rw [cat_sum hkd]; omega) hcs.1 hcs.2 hd ?_
      rw [← iI_min]
      exact h5
    · obtain ⟨w1, w2, w3, w4⟩ := hKK _ hm
      have h5 := hk env _ σ ls H locs hl hI h2
      refine va_mmax_long hx hb (hml.trans hl.1.symm) hown (hts _ w1) (hts _ w2) (hts _ w3) (hts _ w4) (by omega) (by rw [cat_sum hkd]; omega) hcs.1 hcs.2 hd ?_
      rw [← lI_max]
      exact h5
    · obtain ⟨ce, as, r, hce, rfl, hlen, h0, hW8, Qp, h1, h2⟩ := calS_inv (k := fun st σ => k env st σ) h
      exact r_calS hC (hCC _ hce) hl hI hlen h0 (by rw [cat_sum hkd]; exact hW8) h1 hd (fun v u H1 locs1 q i => by
        have h5 := hk env _ u ls H1 locs1 hl i (h2 v u q)
        rw [List.map_append] at h5
        cases v <;> exact h5)
  case ireturn =>
    simp only [immOK, beq_iff_eq] at him
    subst him
    obtain ⟨x, rfl, h⟩ := rI_inv h
    exact hr (some (vI x)) .ireturn pc σ ls H locs (Or.inl ⟨rfl, _, rfl⟩) hd hI h
  case lreturn =>
    simp only [immOK, beq_iff_eq] at him
    subst him
    obtain ⟨x, rfl, h⟩ := rL_inv h
    exact hr (some (vL x)) .lreturn pc σ ls H locs (Or.inr (Or.inl ⟨rfl, _, rfl⟩)) hd hI h
  case areturn =>
    simp only [immOK, beq_iff_eq] at him
    subst him
    obtain ⟨x, rfl, h⟩ := rA_inv h
    exact hr (some (vC x)) .areturn pc σ ls H locs (Or.inr (Or.inr (Or.inl ⟨rfl, _, rfl⟩))) hd hI h
  case return_ =>
    simp only [immOK, beq_iff_eq] at him
    subst him
    obtain ⟨rfl, h⟩ := rV_inv h
    exact hr none .return_ pc σ ls H locs (Or.inr (Or.inr (Or.inr ⟨rfl, rfl⟩))) hd hI h
  all_goals exact (show False from h).elim
end SI
