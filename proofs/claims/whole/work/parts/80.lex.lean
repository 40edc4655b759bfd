/-! ===== texts: words and numbers of a TAPE ===== -/
def scf (P : Int → Bool) : Nat → Int → Int
  | 0, p => p
  | n + 1, p => if P p = true then scf P n (p + 1) else p
def sc (P : Int → Bool) (N p : Int) : Int := scf P (N - p).toNat p
theorem sc_1 {P : Int → Bool} {N p : Int} (h : p < N) (hP : P p = true) : sc P N p = sc P N (p + 1) := by
  unfold sc
  rw [show (N - p).toNat = (N - (p + 1)).toNat + 1 by omega]
  exact if_pos hP
theorem sc_0 {P : Int → Bool} {N p : Int} (h : ¬ (p < N ∧ P p = true)) : sc P N p = p := by
  unfold sc
  by_cases q : p < N
  · rw [show (N - p).toNat = (N - (p + 1)).toNat + 1 by omega]
    exact if_neg (fun z => h ⟨q, z⟩)
  · rw [show (N - p).toNat = 0 by omega]
    rfl
theorem scf_bd (P : Int → Bool) : ∀ (n : Nat) (p : Int), p ≤ scf P n p ∧ scf P n p ≤ p + n
  | 0, p => by unfold scf; omega
  | n + 1, p => by
    have := scf_bd P n (p + 1)
    unfold scf
    split <;> omega
theorem sc_bd {P : Int → Bool} {N p : Int} (h : p ≤ N) : p ≤ sc P N p ∧ sc P N p ≤ N := by
  have := scf_bd P (N - p).toNat p
  unfold sc
  omega
theorem scf_in (P : Int → Bool) : ∀ (n : Nat) (p i : Int), p ≤ i → i < scf P n p → P i = true
  | 0, p, i, h0, h1 => by unfold scf at h1; omega
  | n + 1, p, i, h0, h1 => by
    unfold scf at h1
    by_cases q : P p = true
    · rw [if_pos q] at h1
      by_cases e : i = p
      · rw [e]; exact q
      · exact scf_in P n (p + 1) i (by omega) h1
    · rw [if_neg q] at h1
      omega
theorem scf_end (P : Int → Bool) : ∀ (n : Nat) (p : Int), scf P n p < p + n → ¬ P (scf P n p) = true
  | 0, p, h => by unfold scf at h; omega
  | n + 1, p, h => by
    unfold scf at h ⊢
    by_cases q : P p = true
    · rw [if_pos q] at h ⊢
      exact scf_end P n (p + 1) (by omega)
    · rw [if_neg q]
      exact q
theorem sc_end {P : Int → Bool} {N p : Int} (hp : p ≤ N) (h : sc P N p < N) : ¬ P (sc P N p) = true := by
  unfold sc at h ⊢
  exact scf_end P _ p (by omega)
def blT (T : Int → Int) : Int → Bool := fun i => decide (T i = 32)
def ltT (T : Int → Int) : Int → Bool := fun i => decide (97 ≤ T i ∧ T i ≤ 122)
def dgT (T : Int → Int) : Int → Bool := fun i => decide (48 ≤ T i ∧ T i ≤ 57)
/-- a text and its length -/
def TX (T : Int → Int) (N : Int) : Prop := (0 ≤ N ∧ N ≤ 400) ∧ ∀ i, 0 ≤ i → i < N → 0 ≤ T i ∧ T i ≤ 255
def pk (T : Int → Int) (N p : Int) : Int := if p < N then T p else -1
/-- the value of digits from a on, as far as they count -/
def dvf (T : Int → Int) (a : Int) : Nat → Int → Int → Int
  | 0, _, v => v
  | n + 1, p, v => if dgT T p = true then dvf T a n (p + 1) (if p - a < 5 then v * 10 + T p - 48 else v) else v
def dv (T : Int → Int) (N a p v : Int) : Int := dvf T a (N - p).toNat p v
theorem dv_1 {T : Int → Int} {N a p v : Int} (h : p < N) (hP : dgT T p = true) : dv T N a p v = dv T N a (p + 1) (if p - a < 5 then v * 10 + T p - 48 else v) := by
  unfold dv
  rw [show (N - p).toNat = (N - (p + 1)).toNat + 1 by omega]
  exact if_pos hP
theorem dv_0 {T : Int → Int} {N a p v : Int} (h : ¬ (p < N ∧ dgT T p = true)) : dv T N a p v = v := by
  unfold dv
  by_cases q : p < N
  · rw [show (N - p).toNat = (N - (p + 1)).toNat + 1 by omega]
    exact if_neg (fun z => h ⟨q, z⟩)
  · rw [show (N - p).toNat = 0 by omega]
    rfl
/-- bounds of a number of so many digits -/
def dB (d v : Int) : Prop := 0 ≤ v ∧ (d ≤ 0 → v ≤ 0) ∧ (d ≤ 1 → v ≤ 9) ∧ (d ≤ 2 → v ≤ 99) ∧ (d ≤ 3 → v ≤ 999) ∧ (d ≤ 4 → v ≤ 9999) ∧ v ≤ 99999
theorem dB_1 {T : Int → Int} {a p v : Int} (hP : dgT T p = true) (h : dB (p - a) v) (hp : a ≤ p) : dB (p + 1 - a) (if p - a < 5 then v * 10 + T p - 48 else v) := by
  have hd := decide_eq_true_iff.mp hP
  unfold dB at h ⊢
  split <;> omega
theorem dv_bd {T : Int → Int} {N a : Int} : ∀ (n : Nat) (p v : Int), dB (p - a) v → a ≤ p → 0 ≤ dvf T a n p v ∧ dvf T a n p v ≤ 99999
  | 0, p, v, h, _ => by
    unfold dB at h
    show 0 ≤ v ∧ v ≤ 99999
    omega
  | n + 1, p, v, h, hp => by
    unfold dvf
    by_cases q : dgT T p = true
    · rw [if_pos q]
      exact dv_bd (N := N) n (p + 1) _ (dB_1 q h hp) (by omega)
    · rw [if_neg q]
      unfold dB at h
      omega
def nuV (T : Int → Int) (N a : Int) : Int := dv T N a a 0
theorem dB_0 (a : Int) : dB (a - a) 0 := by unfold dB; omega
theorem nuV_bd {T : Int → Int} {N a : Int} : 0 ≤ nuV T N a ∧ nuV T N a ≤ 99999 := dv_bd (N := N) _ a 0 (dB_0 a) (by omega)
def nuR (T : Int → Int) (N a : Int) : Int := if sc (dgT T) N a = a then -1 else if 5 < sc (dgT T) N a - a then 100000 else nuV T N a
/-! the class's cursor -/
def CXx (s : Mem) (T : Int → Int) (N p : Int) : Prop := s 1 0 = T ∧ s 1 1 0 = N ∧ s 1 2 0 = p
theorem CXx.st {s t : Mem} {T : Int → Int} {N p q : Int} (h : CXx s T N p) (hF : FrJ 1 (fun j => j = 2) s t) (e : t 1 2 0 = q) : CXx t T N q := ⟨by rw [hF.2 0 (by omega)]; exact h.1, by rw [hF.2 1 (by omega)]; exact h.2.1, e⟩
theorem p_tx_next {s : Mem} {T : Int → Int} {N p : Int} {Q : Int → Mem → Prop} (hT : TX T N) (hC : CXx s T N p) (hp : 0 ≤ p ∧ p ≤ N) (h : ∀ t, FrJ 1 (fun j => j = 2) s t → CXx t T N (sc (blT T) N p) → Q (sc (blT T) N p) t) : W_tx_next s Q := by
  refine w_tx_next ?_
  have loop : ∀ i : Int, ∀ t, 0 ≤ i → i ≤ N → FrJ 1 (fun j => j = 2) s t → CXx t T N i → sc (blT T) N p = sc (blT T) N i → K_tx_next_0 Q t := by
    refine fun i => ind_up (P := fun i => ∀ t, 0 ≤ i → i ≤ N → FrJ 1 (fun j => j = 2) s t → CXx t T N i → sc (blT T) N p = sc (blT T) N i → K_tx_next_0 Q t) N (fun i ih t i0 i1 hF hCt he => ?_) i
    obtain ⟨c1, c2, c3⟩ := id hCt
    obtain ⟨h1, h2⟩ := hT
    refine b_tx_next_0 ?_
    unfold T_tx_next_0 T_tx_next_38
    rw [c1, c2, c3, wr_id (x := N) (by omega) (by omega), wr_id (x := i) (by omega) (by omega)]
    refine ⟨fun c => ?_, fun c => ⟨by omega, ?_⟩⟩
    · rw [sc_0 (p := i) (fun z => by omega)] at he
      have h := h t hF (by rw [he]; exact hCt)
      rw [he] at h
      exact h
    · have hb := h2 i i0 (by omega)
      rw [wr_id (x := T i) (by omega) (by omega)]
      refine ⟨fun c4 => ?_, fun c4 => ?_⟩
      · rw [sc_0 (p := i) (fun z => c4 (decide_eq_true_iff.mp z.2))] at he
        have h := h t hF (by rw [he]; exact hCt)
        rw [he] at h
        exact h
      · intro s3 x3
        obtain ⟨y1, y2, y3⟩ := updM_f x3
        have hf : FrJ 1 (fun j => j = 2) t s3 := ⟨y1, fun j q => y2 j q⟩
        rw [sc_1 (p := i) (by omega) (decide_eq_true (Decidable.byContradiction c4))] at he
        exact ih (by omega) s3 (by omega) (by omega) (hF.tr hf) (hCt.st hf (by rw [y3, uA_s])) he
  exact loop p s hp.1 hp.2 FrJ.rf hC rfl
theorem p_tx_peek {s : Mem} {T : Int → Int} {N p : Int} {Q : Int → Mem → Prop} (hT : TX T N) (hC : CXx s T N p) (hp : 0 ≤ p ∧ p ≤ N + 1) (h : Q (pk T N p) s) : W_tx_peek s Q := by
  obtain ⟨c1, c2, c3⟩ := hC
  obtain ⟨h1, h2⟩ := hT
  unfold pk at h
  refine w_tx_peek (b_tx_peek_0 ?_)
  unfold T_tx_peek_0 T_tx_peek_23 T_tx_peek_24
  rw [c1, c2, c3, wr_id (x := N) (by omega) (by omega), wr_id (x := p) (by omega) (by omega)]
  refine ⟨fun c => ?_, fun c => ⟨by omega, ?_⟩⟩
  · rw [if_neg (by omega)] at h
    exact h
  · rw [if_pos (by omega)] at h
    exact h
theorem p_tx_step {s : Mem} {T : Int → Int} {N p : Int} {Q : Mem → Prop} (hC : CXx s T N p) (h : ∀ t, FrJ 1 (fun j => j = 2) s t → CXx t T N (p + 1) → Q t) : W_tx_step s Q := by
  refine w_tx_step (b_tx_step_0 ?_)
  intro s1 x1
  obtain ⟨y1, y2, y3⟩ := updM_f x1
  have hf : FrJ 1 (fun j => j = 2) s s1 := ⟨y1, fun j q => y2 j q⟩
  exact h s1 hf (hC.st hf (by rw [y3, uA_s, hC.2.2]))
theorem p_tx_fault {p c : Int} {s : Mem} {Q : Int → Mem → Prop} (h : Q (1 + 8 * p + c) s) : W_tx_fault p c s Q := w_tx_fault (b_tx_fault_0 h)
theorem p_tx_readNumber {s : Mem} {T : Int → Int} {N p : Int} {Q : Int → Mem → Prop} (hT : TX T N) (hC : CXx s T N p) (hp : 0 ≤ p ∧ p ≤ N) (h : ∀ t, FrJ 1 (fun j => j = 2) s t → CXx t T N (sc (dgT T) N p) → Q (nuR T N p) t) : W_tx_readNumber s Q := by
  refine w_tx_readNumber (b_tx_readNumber_0 ?_)
  unfold T_tx_readNumber_0
  rw [hC.2.2]
  have loop : ∀ i : Int, ∀ (v : Int) (t : Mem), p ≤ i → i ≤ N → dB (i - p) v → FrJ 1 (fun j => j = 2) s t → CXx t T N i → sc (dgT T) N p = sc (dgT T) N i → nuV T N p = dv T N p i v → K_tx_readNumber_7 Q p v t := by
    refine fun i => ind_up (P := fun i => ∀ (v : Int) (t : Mem), p ≤ i → i ≤ N → dB (i - p) v → FrJ 1 (fun j => j = 2) s t → CXx t T N i → sc (dgT T) N p = sc (dgT T) N i → nuV T N p = dv T N p i v → K_tx_readNumber_7 Q p v t) N (fun i ih v t i0 i1 hB hF hCt he hv => ?_) i
    obtain ⟨c1, c2, c3⟩ := id hCt
    obtain ⟨h1, h2⟩ := hT
    have vb : 0 ≤ v ∧ v ≤ 99999 := ⟨hB.1, hB.2.2.2.2.2.2⟩
    have stop : ¬ (i < N ∧ dgT T i = true) → T_tx_readNumber_87 Q p v t := fun hno => by
      rw [sc_0 hno] at he
      rw [dv_0 hno] at hv
      have h := h t hF (by rw [he]; exact hCt)
      unfold nuR at h
      rw [he, hv] at h
      unfold T_tx_readNumber_87 T_tx_readNumber_97 T_tx_readNumber_112 T_tx_readNumber_113
      rw [c3, wr_id (x := i) (by omega) (by omega), wr_id (x := p) (by omega) (by omega), wr_id (x := i - p) (by omega) (by omega)]
      refine ⟨fun c => ⟨fun c5 => ?_, fun c5 => ?_⟩, fun c => ?_⟩
      · rw [if_neg c, if_neg (by omega)] at h
        exact h
      · rw [if_neg c, if_pos (by omega)] at h
        exact h
      · rw [if_pos (Decidable.byContradiction c)] at h
        exact h
    refine b_tx_readNumber_7 ?_
    unfold T_tx_readNumber_7 T_tx_readNumber_74
    rw [c1, c2, c3, wr_id (x := N) (by omega) (by omega), wr_id (x := i) (by omega) (by omega), wr_id (x := i - p) (by omega) (by omega)]
    refine ⟨fun c => stop (fun z => by omega), fun c => ⟨by omega, ?_⟩⟩
    have hb := h2 i (by omega) (by omega)
    rw [wr_id (x := T i) (by omega) (by omega)]
    refine ⟨fun c4 => stop (fun z => by have := decide_eq_true_iff.mp z.2; omega), fun c4 => ⟨by omega, fun c5 => stop (fun z => by have := decide_eq_true_iff.mp z.2; omega), fun c5 => ?_⟩⟩
    have hd : dgT T i = true := decide_eq_true (by omega)
    rw [sc_1 (by omega) hd] at he
    rw [dv_1 (by omega) hd] at hv
    have hB2 := dB_1 hd hB i0
    have go : ∀ v' : Int, v' = (if i - p < 5 then v * 10 + T i - 48 else v) → ∀ s1, s1 = updM t 1 2 0 (i + 1) → K_tx_readNumber_7 Q p v' s1 := fun v' e s1 x1 => by
      obtain ⟨y1, y2, y3⟩ := updM_f x1
      have hf : FrJ 1 (fun j => j = 2) t s1 := ⟨y1, fun j q => y2 j q⟩
      rw [← e] at hv hB2
      exact ih (by omega) v' s1 (by omega) (by omega) hB2 (hF.tr hf) (hCt.st hf (by rw [y3, uA_s])) he hv
    refine ⟨fun c6 => go v (by rw [if_neg (by omega)]), fun c6 => ⟨by omega, ?_⟩⟩
    intro x5 e5
    exact go x5 (by rw [if_pos (by omega), e5])
  exact loop p 0 s (by omega) hp.2 (dB_0 p) FrJ.rf hC rfl rfl
/-! words -/
def stl (k : Nat) : List Int := cvL.getD (k + 1) []
theorem chr_ok : ∀ q : Nat, q < 60 → ckind q = 6 → ∀ i : Nat, i < clen q → (iI (toC (bAnd (cval q (i : Int)) 255))).toUInt32.toUInt16.toUInt32.toInt32 = iI (toC (bAnd (cval q (i : Int)) 255)) ∧ toC (bAnd (cval q (i : Int)) 255) = cval q (i : Int) ∧ 0 ≤ cval q (i : Int) ∧ cval q (i : Int) ≤ 127 ∧ clen q < 1000 := by decide +kernel
theorem p_js_length {k : Nat} {s : Mem} {Q : Int → Mem → Prop} (hk : ckind k = 20) (hk2 : clen (k + 1) < 1000) (h : Q (clen (k + 1) : Int) s) : W_js_length k s Q := by
  refine w_js_length (b_js_length_0 hk (w_js_coder (b_js_coder_0 hk ?_)))
  unfold T_js_coder_0 T_js_coder_13 T_js_coder_14
  refine ⟨fun z => absurd z (by decide), fun _ => ⟨rfl, ?_⟩⟩
  dsimp only
  rw [bShr_g _ 0 0 (by decide), wr_id (x := (clen (k + 1) : Int)) (by omega) (by omega)]
  rw [show ((2 ^ 0 : Nat) : Int) = 1 from rfl, Int.ediv_one]
  exact h
theorem p_js_charAt {k : Nat} {i : Int} {s : Mem} {Q : Int → Mem → Prop} (hk : ckind k = 20) (hi : 0 ≤ i ∧ i < clen (k + 1)) (h : Q (cval (k + 1) i) s) : W_js_charAt k i s Q := by
  have hk6 := str_arr hk
  have hlt := ck_lt hk6 (by decide)
  obtain ⟨j, rfl⟩ : ∃ j : Nat, i = (j : Int) := ⟨i.toNat, by omega⟩
  obtain ⟨c1, c2, c3, c4, c5⟩ := chr_ok (k + 1) (Nat.lt_of_lt_of_le hlt (by decide)) hk6 j (by omega)
  have nar : narrow .char (.int (iI (toC (bAnd (cval (k + 1) (j : Int)) 255)))) = .int (iI (toC (bAnd (cval (k + 1) (j : Int)) 255))) := congrArg Value.int c1
  refine w_js_charAt (b_js_charAt_0 hk (w_js_isLatin1 (b_js_isLatin1_0 hk ?_)))
  unfold T_js_isLatin1_0 T_js_isLatin1_17 T_js_isLatin1_18 T_js_charAt_16
  refine ⟨fun z => absurd z (by decide), fun _ => ⟨fun z => absurd (by decide) z, fun _ => ⟨Or.inr rfl, ?_⟩⟩⟩
  intro _
  refine ⟨fun z => absurd z (by decide), fun _ => w_jl_charAt (b_jl_charAt_0 hk6 (w_js_checkIndex (b_js_checkIndex_0 (w_jp_checkIndex (b_jp_checkIndex_0 ?_)))))⟩
  unfold T_jp_checkIndex_0 T_jp_checkIndex_9 T_jp_checkIndex_16
  dsimp only
  rw [wr_id (x := (j : Int)) (by omega) (by omega), wr_id (x := (clen (k + 1) : Int)) (by omega) (by omega)]
  refine ⟨fun z => by omega, fun _ => ⟨fun _ => ?_, fun z => by omega⟩⟩
  refine ⟨by omega, nar, nar, ?_⟩
  rw [c2]
  exact h
