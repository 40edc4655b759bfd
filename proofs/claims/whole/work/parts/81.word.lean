/-! ===== a word among some ===== -/
/-- from m on there stands the word, up to e -/
def wq (T : Int → Int) (e : Int) : List Int → Int → Prop
  | [], m => m = e
  | c :: r, m => T m = c ∧ wq T e r (m + 1)
theorem wq_len {T : Int → Int} {e : Int} : ∀ {w : List Int} {m : Int}, wq T e w m → m + w.length = e
  | [], m, h => by
    have h : m = e := h
    rw [h]
    exact Int.add_zero _
  | c :: r, m, h => by
    have := wq_len h.2
    rw [List.length_cons]
    omega
/-- which of the words; -1: none -/
def fw (T : Int → Int) (e m : Int) : List (List Int) → Int → Int → Prop
  | [], _, x => x = -1
  | w :: ws, n, x => (wq T e w m ∧ x = n) ∨ (¬ wq T e w m ∧ fw T e m ws (n + 1) x)
theorem fw_bd {T : Int → Int} {e m : Int} : ∀ {ws : List (List Int)} {n x : Int}, 0 ≤ n → fw T e m ws n x → x = -1 ∨ (n ≤ x ∧ x < n + ws.length)
  | [], n, x, _, h => Or.inl h
  | w :: ws, n, x, hn, h => by
    rw [List.length_cons]
    rcases h with ⟨_, h⟩ | ⟨_, h⟩
    · right; omega
    · rcases fw_bd (by omega) h with q | q
      · exact Or.inl q
      · right; omega
/-- the machine's walk over the words in one text, blanks between -/
def rwl (T : Int → Int) (f e : Int) : List Int → Int → Int → Bool → Int
  | [], n, m, al => if al = true ∧ m = e then n else -1
  | c :: r, n, m, al => if c = 32 then (if al = true ∧ m = e then n else rwl T f e r (n + 1) f true) else rwl T f e r n (m + 1) (al && (decide (m < e) && decide (T m = c)))
theorem rwl_w {T : Int → Int} {f e : Int} : ∀ (w : List Int) (tail : List Int) (n m : Int) (al : Bool), (∀ c, c ∈ w → ¬ c = 32) → (wq T e w m ∧ al = true → rwl T f e (w ++ 32 :: tail) n m al = n) ∧ (¬ (wq T e w m ∧ al = true) → rwl T f e (w ++ 32 :: tail) n m al = rwl T f e tail (n + 1) f true)
  | [], tail, n, m, al, _ => by
    show (m = e ∧ al = true → (if (32 : Int) = 32 then (if al = true ∧ m = e then n else rwl T f e tail (n + 1) f true) else _) = n) ∧ (¬ (m = e ∧ al = true) → (if (32 : Int) = 32 then (if al = true ∧ m = e then n else rwl T f e tail (n + 1) f true) else _) = _)
    rw [if_pos rfl]
    exact ⟨fun h => if_pos ⟨h.2, h.1⟩, fun h => if_neg (fun z => h ⟨z.2, z.1⟩)⟩
  | c :: r, tail, n, m, al, hc => by
    have e1 : rwl T f e ((c :: r) ++ 32 :: tail) n m al = rwl T f e (r ++ 32 :: tail) n (m + 1) (al && (decide (m < e) && decide (T m = c))) := if_neg (hc c List.mem_cons_self)
    obtain ⟨i1, i2⟩ := rwl_w (T := T) (f := f) (e := e) r tail n (m + 1) (al && (decide (m < e) && decide (T m = c))) (fun d hd => hc d (List.mem_cons_of_mem _ hd))
    rw [e1]
    refine ⟨fun h => i1 ⟨h.1.2, ?_⟩, fun h => i2 (fun z => h ⟨⟨?_, z.1⟩, ?_⟩)⟩
    · have hl := wq_len h.1.2
      rw [h.2, decide_eq_true (show m < e by omega), decide_eq_true h.1.1]
      rfl
    · have z2 := z.2
      rw [Bool.and_eq_true, Bool.and_eq_true] at z2
      exact decide_eq_true_iff.mp z2.2.2
    · have z2 := z.2
      rw [Bool.and_eq_true] at z2
      exact z2.1
theorem rwl_e {T : Int → Int} {f e : Int} : ∀ (w : List Int) (n m : Int) (al : Bool), (∀ c, c ∈ w → ¬ c = 32) → (wq T e w m ∧ al = true → rwl T f e w n m al = n) ∧ (¬ (wq T e w m ∧ al = true) → rwl T f e w n m al = -1)
  | [], n, m, al, _ => ⟨fun h => if_pos ⟨h.2, h.1⟩, fun h => if_neg (fun z => h ⟨z.2, z.1⟩)⟩
  | c :: r, n, m, al, hc => by
    have e1 : rwl T f e (c :: r) n m al = rwl T f e r n (m + 1) (al && (decide (m < e) && decide (T m = c))) := if_neg (hc c List.mem_cons_self)
    obtain ⟨i1, i2⟩ := rwl_e (T := T) (f := f) (e := e) r n (m + 1) (al && (decide (m < e) && decide (T m = c))) (fun d hd => hc d (List.mem_cons_of_mem _ hd))
    rw [e1]
    refine ⟨fun h => i1 ⟨h.1.2, ?_⟩, fun h => i2 (fun z => h ⟨⟨?_, z.1⟩, ?_⟩)⟩
    · have hl := wq_len h.1.2
      rw [h.2, decide_eq_true (show m < e by omega), decide_eq_true h.1.1]
      rfl
    · have z2 := z.2
      rw [Bool.and_eq_true, Bool.and_eq_true] at z2
      exact decide_eq_true_iff.mp z2.2.2
    · have z2 := z.2
      rw [Bool.and_eq_true] at z2
      exact z2.1
/-- words with a blank between each -/
def joinW : List (List Int) → List Int
  | [] => []
  | [w] => w
  | w :: w2 :: ws => w ++ 32 :: joinW (w2 :: ws)
theorem rwl_fw {T : Int → Int} {f e : Int} : ∀ (ws : List (List Int)) (n : Int), (∀ w, w ∈ ws → ∀ c, c ∈ w → ¬ c = 32) → ¬ ws = [] → fw T e f ws n (rwl T f e (joinW ws) n f true)
  | [], _, _, h => absurd rfl h
  | [w], n, hc, _ => by
    obtain ⟨i1, i2⟩ := rwl_e (T := T) (f := f) (e := e) w n f true (hc w List.mem_cons_self)
    show (wq T e w f ∧ rwl T f e w n f true = n) ∨ (¬ wq T e w f ∧ rwl T f e w n f true = -1)
    by_cases q : wq T e w f
    · exact Or.inl ⟨q, i1 ⟨q, rfl⟩⟩
    · exact Or.inr ⟨q, i2 (fun z => q z.1)⟩
  | w :: w2 :: ws, n, hc, _ => by
    obtain ⟨i1, i2⟩ := rwl_w (T := T) (f := f) (e := e) w (joinW (w2 :: ws)) n f true (hc w List.mem_cons_self)
    have ih := rwl_fw (T := T) (f := f) (e := e) (w2 :: ws) (n + 1) (fun v hv => hc v (List.mem_cons_of_mem _ hv)) (by intro z; cases z)
    show (wq T e w f ∧ rwl T f e (w ++ 32 :: joinW (w2 :: ws)) n f true = n) ∨ (¬ wq T e w f ∧ fw T e f (w2 :: ws) (n + 1) (rwl T f e (w ++ 32 :: joinW (w2 :: ws)) n f true))
    by_cases q : wq T e w f
    · exact Or.inl ⟨q, i1 ⟨q, rfl⟩⟩
    · rw [i2 (fun z => q z.1)]
      exact Or.inr ⟨q, ih⟩
/-- the rest of a list from a place on -/
theorem drop_get {l : List Int} {i : Nat} (h : i < l.length) : l.drop i = l.getD i 0 :: l.drop (i + 1) := by
  rw [List.drop_eq_getElem_cons h, List.getD_eq_getElem?_getD, List.getElem?_eq_getElem h]
  rfl
theorem p_tx_readWord {k : Nat} {s : Mem} {T : Int → Int} {N p : Int} {ws : List (List Int)} {Q : Int → Mem → Prop} (hk : ckind k = 20) (hw : cvL.getD (k + 1) [] = joinW ws) (hws : ∀ w, w ∈ ws → ∀ c, c ∈ w → ¬ c = 32) (hne : ¬ ws = []) (hlen : clen (k + 1) < 1000) (hT : TX T N) (hC : CXx s T N p) (hp : 0 ≤ p ∧ p ≤ N)
    (h : ∀ t x, FrJ 1 (fun j => j = 2) s t → CXx t T N (sc (ltT T) N p) → fw T (sc (ltT T) N p) p ws 0 x → Q x t) : W_tx_readWord k s Q := by
  obtain ⟨h1, h2⟩ := id hT
  refine w_tx_readWord (b_tx_readWord_0 hk ?_)
  unfold T_tx_readWord_0
  rw [hC.2.2]
  have hsc := sc_bd (P := ltT T) hp.2
  generalize hE : sc (ltT T) N p = e at h hsc
  -- over the words
  have match' : ∀ t, FrJ 1 (fun j => j = 2) s t → CXx t T N e → K_tx_readWord_68 Q k p 0 p 1 0 t := by
    intro t hF hCt
    obtain ⟨c1, c2, c3⟩ := id hCt
    have loop : ∀ d i : Nat, clen (k + 1) - i = d → i ≤ clen (k + 1) → ∀ (n m : Int) (al : Bool), (0 ≤ n ∧ n ≤ i) → (p ≤ m ∧ m ≤ p + i) → rwl T p e ((joinW ws).drop i) n m al = rwl T p e (joinW ws) 0 p true → K_tx_readWord_68 Q k p n m (if al = true then 1 else 0) (i : Int) t := by
      intro d
      induction d with
      | zero =>
        intro i hd hi n m al hn hm he
        have ei : i = clen (k + 1) := by omega
        have hz : (joinW ws).drop i = [] := List.drop_eq_nil_of_le (by rw [← hw]; unfold clen at ei; omega)
        rw [hz] at he
        have he : (if al = true ∧ m = e then n else -1) = rwl T p e (joinW ws) 0 p true := he
        have hfw := rwl_fw (T := T) (f := p) (e := e) ws 0 hws hne
        rw [← he] at hfw
        have stop : K_tx_readWord_68 Q k p (n + 1) p 1 ((i : Int) + 1) t ∨ True := Or.inr trivial
        refine b_tx_readWord_68 hk ?_
        unfold T_tx_readWord_68 T_tx_readWord_171 T_tx_readWord_140 T_tx_readWord_156 T_tx_readWord_165
        refine p_js_length hk hlen ?_
        rw [wr_id (x := (clen (k + 1) : Int)) (by omega) (by omega), wr_id (x := (i : Int)) (by omega) (by omega)]
        refine ⟨fun z => by omega, fun _ => p_js_length hk hlen ?_⟩
        rw [wr_id (x := (clen (k + 1) : Int)) (by omega) (by omega)]
        refine ⟨fun _ => ?_, fun z => by omega⟩
        have last : ¬ (al = true ∧ m = e) → K_tx_readWord_68 Q k p (n + 1) p 1 ((i : Int) + 1) t := fun c => by
          rw [if_neg c] at hfw
          refine b_tx_readWord_68 hk ?_
          unfold T_tx_readWord_68 T_tx_readWord_171
          refine p_js_length hk hlen ?_
          rw [wr_id (x := (clen (k + 1) : Int)) (by omega) (by omega), wr_id (x := (i : Int) + 1) (by omega) (by omega)]
          exact ⟨fun _ => h t (-1) hF hCt hfw, fun z => by omega⟩
        rw [c3, wr_id (x := m) (by omega) (by omega), wr_id (x := e) (by omega) (by omega)]
        cases al with
        | false => exact ⟨fun _ => last (fun z => absurd z.1 (by decide)), fun z => absurd (by decide) z⟩
        | true =>
          refine ⟨fun z => absurd z (by decide), fun _ => ⟨fun c => last (fun z => c z.2), fun c => ?_⟩⟩
          have hme : m = e := Decidable.byContradiction c
          rw [if_pos ⟨rfl, hme⟩] at hfw
          exact h t n hF hCt hfw
      | succ d ih =>
        intro i hd hi n m al hn hm he
        have hil : i < (joinW ws).length := by rw [← hw]; unfold clen at hd; omega
        rw [drop_get hil] at he
        have ecv : (joinW ws).getD i 0 = cval (k + 1) (i : Int) := by rw [← hw]; rfl
        rw [ecv] at he
        have ih := ih (i + 1) (by omega) (by omega)
        rw [show ((i + 1 : Nat) : Int) = (i : Int) + 1 by omega] at ih
        have hcr := chr_ok (k + 1) (Nat.lt_of_lt_of_le (ck_lt (str_arr hk) (by decide)) (by decide)) (str_arr hk) i (by omega)
        have chA : ∀ (u : Mem) (Q' : Int → Mem → Prop), Q' (cval (k + 1) (i : Int)) u → W_js_charAt k (i : Int) u Q' := fun u Q' hq => p_js_charAt hk (by omega) hq
        generalize cval (k + 1) (i : Int) = cc at he hcr chA
        have he : (if cc = 32 then (if al = true ∧ m = e then n else rwl T p e ((joinW ws).drop (i + 1)) (n + 1) p true) else rwl T p e ((joinW ws).drop (i + 1)) n (m + 1) (al && (decide (m < e) && decide (T m = cc)))) = rwl T p e (joinW ws) 0 p true := he
        have hfw := rwl_fw (T := T) (f := p) (e := e) ws 0 hws hne
        have hil2 : (i : Int) < 1000 := by omega
        refine b_tx_readWord_68 hk ?_
        unfold T_tx_readWord_68
        refine p_js_length hk hlen ?_
        rw [wr_id (x := (clen (k + 1) : Int)) (by omega) (by omega), wr_id (x := (i : Int)) (by omega) (by omega)]
        refine ⟨fun z => by omega, fun _ => p_js_length hk hlen ?_⟩
        rw [wr_id (x := (clen (k + 1) : Int)) (by omega) (by omega)]
        have wal : wr (if al = true then (1 : Int) else 0) = 0 ↔ ¬ al = true := by
          cases al with
          | false => exact ⟨fun _ => by decide, fun _ => by decide⟩
          | true => exact ⟨fun z => absurd z (by decide), fun z => absurd rfl z⟩
        have t132 : ∀ a' : Bool, (al && (decide (m < e) && decide (T m = cc))) = a' → ¬ cc = 32 → T_tx_readWord_132 Q k p n m (i : Int) (if a' = true then 1 else 0) t := fun a' ha c => by
          rw [if_neg c, ha] at he
          unfold T_tx_readWord_132 T_tx_readWord_165
          exact ih n (m + 1) a' (by omega) (by omega) he
        have t131 : ¬ (al = true ∧ m < e ∧ T m = cc) → ¬ cc = 32 → T_tx_readWord_131 Q k p n m (i : Int) t := fun c c2 => by
          unfold T_tx_readWord_131
          refine t132 false ?_ c2
          cases al with
          | false => rfl
          | true =>
            rw [Bool.true_and]
            cases hq : (decide (m < e) && decide (T m = cc)) with
            | false => rfl
            | true =>
              rw [Bool.and_eq_true] at hq
              exact absurd ⟨rfl, decide_eq_true_iff.mp hq.1, decide_eq_true_iff.mp hq.2⟩ c
        refine ⟨fun z => by omega, fun _ => chA t _ ?_⟩
        rw [wr_id (x := cc) (by omega) (by omega)]
        refine ⟨fun c => ?_, fun c => ?_⟩
        · rw [if_pos c] at he
          unfold T_tx_readWord_140 T_tx_readWord_156 T_tx_readWord_165
          rw [wal, c3, wr_id (x := m) (by omega) (by omega), wr_id (x := e) (by omega) (by omega)]
          have nx : ¬ (al = true ∧ m = e) → K_tx_readWord_68 Q k p (n + 1) p 1 ((i : Int) + 1) t := fun z => by
            rw [if_neg z] at he
            exact ih (n + 1) p true (by omega) (by omega) he
          refine ⟨fun z => nx (fun y => z y.1), fun z => ⟨fun z2 => nx (fun y => z2 y.2), fun z2 => ?_⟩⟩
          rw [if_pos ⟨Decidable.byContradiction z, Decidable.byContradiction z2⟩] at he
          rw [← he] at hfw
          exact h t n hF hCt hfw
        · rw [wal, c3, wr_id (x := m) (by omega) (by omega), wr_id (x := e) (by omega) (by omega)]
          refine ⟨fun z => t131 (fun y => z y.1) c, fun z => ⟨fun z2 => t131 (fun y => by omega) c, fun z2 => ⟨by omega, ?_⟩⟩⟩
          rw [c1]
          refine chA t _ ?_
          have hbm := h2 m (by omega) (by omega)
          rw [wr_id (x := T m) (by omega) (by omega), wr_id (x := cc) (by omega) (by omega)]
          refine ⟨fun z3 => t131 (fun y => z3 y.2.2) c, fun z3 => ?_⟩
          refine t132 true ?_ c
          rw [Decidable.byContradiction z, decide_eq_true (by omega), decide_eq_true (Decidable.byContradiction z3)]
          rfl
    have := loop (clen (k + 1)) 0 (by omega) (by omega) 0 p true (by omega) (by omega) rfl
    exact this
  have walk : ∀ i : Int, ∀ t, p ≤ i → i ≤ N → FrJ 1 (fun j => j = 2) s t → CXx t T N i → sc (ltT T) N i = e → K_tx_readWord_5 Q k p t := by
    refine fun i => ind_up (P := fun i => ∀ t, p ≤ i → i ≤ N → FrJ 1 (fun j => j = 2) s t → CXx t T N i → sc (ltT T) N i = e → K_tx_readWord_5 Q k p t) N (fun i ih t i0 i1 hF hCt he => ?_) i
    obtain ⟨c1, c2, c3⟩ := id hCt
    have stop : ¬ (i < N ∧ ltT T i = true) → T_tx_readWord_57 Q k p t := fun hno => by
      rw [sc_0 hno] at he
      subst he
      exact match' t hF hCt
    refine b_tx_readWord_5 hk ?_
    unfold T_tx_readWord_5
    rw [c1, c2, c3, wr_id (x := N) (by omega) (by omega), wr_id (x := i) (by omega) (by omega)]
    refine ⟨fun c => stop (fun z => by omega), fun c => ⟨by omega, ?_⟩⟩
    have hb := h2 i (by omega) (by omega)
    rw [wr_id (x := T i) (by omega) (by omega)]
    refine ⟨fun c4 => stop (fun z => by have := decide_eq_true_iff.mp z.2; omega), fun c4 => ⟨by omega, fun c5 => stop (fun z => by have := decide_eq_true_iff.mp z.2; omega), fun c5 => ?_⟩⟩
    intro s4 x4
    obtain ⟨y1, y2, y3⟩ := updM_f x4
    have hf : FrJ 1 (fun j => j = 2) t s4 := ⟨y1, fun j q => y2 j q⟩
    rw [sc_1 (by omega) (decide_eq_true (by omega))] at he
    exact ih (by omega) s4 (by omega) (by omega) (hF.tr hf) (hCt.st hf (by rw [y3, uA_s])) he
  exact walk p s (by omega) hp.2 FrJ.rf hC hE
