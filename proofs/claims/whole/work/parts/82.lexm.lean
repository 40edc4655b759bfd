/-! ===== texts: the reference's side ===== -/
def sg (x : Int) : Int := if x < 128 then x else x - 256
theorem sg_dec : ∀ n : Nat, n < 256 → bAnd (sg (n : Int)) 255 = (n : Int) := by decide +kernel
theorem sg_and {x : Int} (h : 0 ≤ x ∧ x ≤ 255) : bAnd (sg x) 255 = x := by
  obtain ⟨n, rfl⟩ : ∃ n : Nat, x = (n : Int) := ⟨x.toNat, by omega⟩
  exact sg_dec n (by omega)
def RX (v : Mem) (T : Int → Int) (N p : Int) : Prop := v 34 32 0 = N ∧ v 34 33 0 = p ∧ ∀ i, 0 ≤ i → i < N → v 34 43 i = sg (T i)
theorem RX.st {v m : Mem} {T : Int → Int} {N p q : Int} {S : Nat → Prop} (h : RX v T N p) (hF : FrJ 34 S v m) (h1 : ¬ S 32) (h2 : ¬ S 43) (e : m 34 33 0 = q) : RX m T N q := ⟨by rw [hF.2 32 h1]; exact h.1, e, fun i i0 i1 => by rw [hF.2 43 h2]; exact h.2.2 i i0 i1⟩
theorem p_md_sign {v : Mem} {T : Int → Int} {N p : Int} {Q : Int → Mem → Prop} (hT : TX T N) (hC : RX v T N p) (hp : 0 ≤ p ∧ p ≤ 1000) (h : Q (pk T N p) v) : W_md_sign v Q := by
  obtain ⟨c1, c2, c3⟩ := hC
  obtain ⟨h1, h2⟩ := hT
  unfold pk at h
  refine w_md_sign (b_md_sign_0 ?_)
  unfold T_md_sign_0 T_md_sign_27 T_md_sign_28
  rw [c1, c2, wr_id (x := N) (by omega) (by omega), wr_id (x := p) (by omega) (by omega)]
  refine ⟨fun c => ?_, fun c => ⟨by omega, ?_⟩⟩
  · rw [if_neg (by omega)] at h
    exact h
  · rw [if_pos (by omega)] at h
    rw [c3 p hp.1 (by omega), sg_and (h2 p hp.1 (by omega))]
    exact h
theorem pk_bd {T : Int → Int} {N p : Int} (hT : TX T N) (hp : 0 ≤ p) : -1 ≤ pk T N p ∧ pk T N p ≤ 255 := by
  unfold pk
  split
  · have := hT.2 p hp (by omega); omega
  · omega
theorem pk_bl {T : Int → Int} {N p : Int} (hN : 0 ≤ N) : pk T N p = 32 ↔ (p < N ∧ blT T p = true) := by
  unfold pk
  split
  · next c => exact ⟨fun z => ⟨c, decide_eq_true z⟩, fun z => decide_eq_true_iff.mp z.2⟩
  · next c => exact ⟨fun z => by omega, fun z => absurd z.1 c⟩
theorem p_md_blanks {v : Mem} {T : Int → Int} {N p : Int} {Q : Mem → Prop} (hT : TX T N) (hC : RX v T N p) (hp : 0 ≤ p ∧ p ≤ 1000) (h : ∀ m, FrJ 34 (fun j => j = 33) v m → RX m T N (sc (blT T) N p) → Q m) : W_md_blanks v Q := by
  refine w_md_blanks ?_
  have loop : ∀ i : Int, ∀ m, 0 ≤ i → i ≤ 1000 → FrJ 34 (fun j => j = 33) v m → RX m T N i → sc (blT T) N p = sc (blT T) N i → K_md_blanks_0 Q m := by
    refine fun i => ind_up (P := fun i => ∀ m, 0 ≤ i → i ≤ 1000 → FrJ 34 (fun j => j = 33) v m → RX m T N i → sc (blT T) N p = sc (blT T) N i → K_md_blanks_0 Q m) N (fun i ih m i0 i1 hF hCm he => ?_) i
    have hb := pk_bd hT i0
    have hl := pk_bl (T := T) (p := i) hT.1.1
    refine b_md_blanks_0 ?_
    unfold T_md_blanks_0 T_md_blanks_22
    refine p_md_sign hT hCm ⟨i0, i1⟩ ?_
    rw [wr_id (x := pk T N i) (by omega) (by omega)]
    refine ⟨fun c => ?_, fun c => ?_⟩
    · rw [sc_0 (p := i) (fun z => c (hl.mpr z))] at he
      exact h m hF (by rw [he]; exact hCm)
    · intro s4 x4
      obtain ⟨y1, y2, y3⟩ := updM_f x4
      have hf : FrJ 34 (fun j => j = 33) m s4 := ⟨y1, fun j q => y2 j q⟩
      obtain ⟨hlt, hbl⟩ := hl.mp (Decidable.byContradiction c)
      rw [sc_1 (p := i) hlt hbl] at he
      have hN := hT.1
      exact ih hlt s4 (by omega) (by omega) (hF.tr hf) (hCm.st hf (by omega) (by omega) (by rw [y3, uA_s, hCm.2.1])) he
  exact loop p v hp.1 hp.2 FrJ.rf hC rfl
theorem p_md_isDigit {v : Mem} {T : Int → Int} {N p : Int} {Q : Int → Mem → Prop} (hT : TX T N) (hC : RX v T N p) (hp : 0 ≤ p ∧ p ≤ 1000) (h : Q (b2 (p < N ∧ dgT T p = true)) v) : W_md_isDigit v Q := by
  have hb := pk_bd hT hp.1
  refine w_md_isDigit (b_md_isDigit_0 (p_md_sign hT hC hp ?_))
  have e : (48 ≤ pk T N p ∧ pk T N p ≤ 57) ↔ (p < N ∧ dgT T p = true) := by
    unfold pk
    split
    · next c => exact ⟨fun z => ⟨c, decide_eq_true z⟩, fun z => decide_eq_true_iff.mp z.2⟩
    · next c => exact ⟨fun z => by omega, fun z => absurd z.1 c⟩
  have wp : wr (pk T N p) = pk T N p := wr_id (by omega) (by omega)
  refine p_in (a' := pk T N p) (b' := 48) (c' := 57) (by rw [wp]; exact wL_id (by omega) (by omega)) (by decide) (by decide) ?_
  rw [b2_eq e]
  exact fun _ => h
/-- a fault, if there was none -/
def flt (f c p : Int) : Int := if f = 0 then 1 + 8 * p + c else f
theorem p_md_fails {v : Mem} {f c p : Int} {Q : Mem → Prop} (hf : v 34 34 0 = f) (hb : 0 ≤ f ∧ f ≤ 100000) (h : ∀ m, FrJ 34 (fun j => j = 34) v m → m 34 34 0 = flt f c p → Q m) : W_md_fails c p v Q := by
  unfold flt at h
  refine w_md_fails (b_md_fails_0 ?_)
  unfold T_md_fails_0 T_md_fails_19 T_md_fails_23
  rw [hf, wr_id (x := f) (by omega) (by omega)]
  refine ⟨fun z s1 x1 => ?_, fun z s1 x1 => ?_⟩
  · obtain ⟨y1, y2, y3⟩ := updM_f x1
    rw [if_neg z] at h
    exact h s1 ⟨y1, fun j q => y2 j q⟩ (by rw [y3, uA_s])
  · obtain ⟨y1, y2, y3⟩ := updM_f x1
    rw [if_pos (Decidable.byContradiction z)] at h
    exact h s1 ⟨y1, fun j q => y2 j q⟩ (by rw [y3, uA_s])
theorem p_md_stood {k : Nat} {v : Mem} {T : Int → Int} {N p : Int} {Q : Int → Mem → Prop} (hk : ckind k = 20) (hlen : clen (k + 1) < 1000) (hT : TX T N) (hC : RX v T N p) (hp : 0 ≤ p ∧ p ≤ N) (h1 : wq T (sc (ltT T) N p) (cvL.getD (k + 1) []) p → Q 1 v) (h0 : ¬ wq T (sc (ltT T) N p) (cvL.getD (k + 1) []) p → Q 0 v) : W_md_stood k v Q := by
  obtain ⟨c1, c2, c3⟩ := id hC
  obtain ⟨n1, n2⟩ := hT
  refine w_md_stood (b_md_stood_0 hk ?_)
  unfold T_md_stood_0
  rw [c2]
  have hsc := sc_bd (P := ltT T) hp.2
  generalize hE : sc (ltT T) N p = e at h1 h0 hsc
  have key : T_md_stood_41 Q k e v := by
    unfold T_md_stood_41 T_md_stood_58 T_md_stood_59
    refine p_js_length hk hlen ?_
    rw [c2, wr_id (x := e - p) (by omega) (by omega), wr_id (x := (clen (k + 1) : Int)) (by omega) (by omega)]
    have bad : ¬ wq T e (cvL.getD (k + 1) []) p → ∀ i : Int, (0 ≤ i ∧ i ≤ 1000) → K_md_stood_63 Q k 0 i v := fun hno i hi => by
      refine b_md_stood_63 hk ?_
      unfold T_md_stood_63 T_md_stood_109
      refine p_js_length hk hlen ?_
      exact ⟨fun _ => ⟨Or.inl rfl, h0 hno⟩, fun _ => ⟨fun _ => ⟨Or.inl rfl, h0 hno⟩, fun z => absurd (by decide) z⟩⟩
    have loop : ∀ d i : Nat, clen (k + 1) - i = d → i ≤ clen (k + 1) → e - p = clen (k + 1) → (wq T e ((cvL.getD (k + 1) []).drop i) (p + i) ↔ wq T e (cvL.getD (k + 1) []) p) → K_md_stood_63 Q k 1 (i : Int) v := by
      intro d
      induction d with
      | zero =>
        intro i hd hi hl hw
        have ei : i = clen (k + 1) := by omega
        refine b_md_stood_63 hk ?_
        unfold T_md_stood_63 T_md_stood_109
        refine p_js_length hk hlen ?_
        rw [wr_id (x := (clen (k + 1) : Int)) (by omega) (by omega), wr_id (x := (i : Int)) (by omega) (by omega)]
        have hz : (cvL.getD (k + 1) []).drop i = [] := List.drop_eq_nil_of_le (by unfold clen at ei; omega)
        rw [hz] at hw
        exact ⟨fun _ => ⟨Or.inr rfl, h1 (hw.mp (show p + (i : Int) = e by omega))⟩, fun z => by omega⟩
      | succ d ih =>
        intro i hd hi hl hw
        have hil : i < (cvL.getD (k + 1) []).length := by unfold clen at hd; omega
        rw [drop_get hil] at hw
        have ecv : (cvL.getD (k + 1) []).getD i 0 = cval (k + 1) (i : Int) := rfl
        rw [ecv] at hw
        have hcr := chr_ok (k + 1) (Nat.lt_of_lt_of_le (ck_lt (str_arr hk) (by decide)) (by decide)) (str_arr hk) i (by omega)
        have chA : ∀ (u : Mem) (Q' : Int → Mem → Prop), Q' (cval (k + 1) (i : Int)) u → W_js_charAt k (i : Int) u Q' := fun u Q' hq => p_js_charAt hk (by omega) hq
        generalize cval (k + 1) (i : Int) = cc at hw hcr chA
        have hbt := n2 (p + i) (by omega) (by omega)
        have hsg := c3 (p + i) (by omega) (by omega)
        refine b_md_stood_63 hk ?_
        unfold T_md_stood_63 T_md_stood_101 T_md_stood_102
        refine p_js_length hk hlen ?_
        rw [wr_id (x := (clen (k + 1) : Int)) (by omega) (by omega), wr_id (x := (i : Int)) (by omega) (by omega), c2, wr_id (x := p + (i : Int)) (by omega) (by omega)]
        refine ⟨fun z => by omega, fun _ => ⟨fun z => absurd z (by decide), fun _ => ⟨by omega, chA v _ ?_⟩⟩⟩
        have esg : wr (sg (T (p + i))) = sg (T (p + i)) := wr_id (by unfold sg; split <;> omega) (by unfold sg; split <;> omega)
        rw [hsg, esg, wr_id (x := cc) (by omega) (by omega)]
        have hiff : sg (T (p + i)) = cc ↔ T (p + i) = cc := by
          unfold sg
          split <;> omega
        refine ⟨fun z => bad (fun y => z (hiff.mpr (hw.mpr y).1)) _ (by omega), fun z => ?_⟩
        have hTc := hiff.mp (Decidable.byContradiction z)
        have := ih (i + 1) (by omega) (by omega) hl (by
          rw [show p + ((i + 1 : Nat) : Int) = p + (i : Int) + 1 by omega]
          exact ⟨fun y => hw.mp ⟨hTc, y⟩, fun y => (hw.mpr y).2⟩)
        rw [show ((i + 1 : Nat) : Int) = (i : Int) + 1 by omega] at this
        exact this
    refine ⟨fun c => bad (fun y => ?_) 0 (by omega), fun c => ?_⟩
    · have := wq_len y
      unfold clen at c
      omega
    · have := loop (clen (k + 1)) 0 (by omega) (by omega) (by omega) (by
        rw [show p + ((0 : Nat) : Int) = p by omega]
        exact Iff.rfl)
      exact this
  have walk : ∀ i : Int, p ≤ i → i ≤ N → sc (ltT T) N i = e → K_md_stood_5 Q k i v := by
    refine fun i => ind_up (P := fun i => p ≤ i → i ≤ N → sc (ltT T) N i = e → K_md_stood_5 Q k i v) N (fun i ih i0 i1 he => ?_) i
    have stop : ¬ (i < N ∧ ltT T i = true) → T_md_stood_41 Q k i v := fun hno => by
      rw [sc_0 hno] at he
      subst he
      exact key
    refine b_md_stood_5 hk ?_
    unfold T_md_stood_5
    rw [c1, wr_id (x := N) (by omega) (by omega), wr_id (x := i) (by omega) (by omega)]
    refine ⟨fun c => stop (fun z => by omega), fun c => ⟨by omega, ?_⟩⟩
    have hb := n2 i (by omega) (by omega)
    rw [c3 i (by omega) (by omega)]
    have esg : wr (sg (T i)) = sg (T i) := wr_id (by unfold sg; split <;> omega) (by unfold sg; split <;> omega)
    have hiff : (97 ≤ sg (T i) ∧ sg (T i) ≤ 122) ↔ (97 ≤ T i ∧ T i ≤ 122) := by
      unfold sg
      split <;> omega
    rw [esg]
    refine ⟨fun c4 => stop (fun z => by have := decide_eq_true_iff.mp z.2; omega), fun c4 => ⟨by omega, fun c5 => stop (fun z => by have := decide_eq_true_iff.mp z.2; omega), fun c5 => ?_⟩⟩
    rw [sc_1 (by omega) (decide_eq_true (by omega))] at he
    exact ih (by omega) (by omega) (by omega) he
  exact walk p (by omega) hp.2 hE
theorem p_md_digits {v : Mem} {T : Int → Int} {N p f : Int} {Q : Int → Mem → Prop} (hT : TX T N) (hC : RX v T N p) (hp : 0 ≤ p ∧ p ≤ N) (hf : v 34 34 0 = f) (hb : 0 ≤ f ∧ f ≤ 100000)
    (h : ∀ m, FrJ 34 (fun j => j = 33 ∨ j = 34) v m → RX m T N (sc (dgT T) N p) → m 34 34 0 = (if sc (dgT T) N p = p then flt f 0 p else if 5 < sc (dgT T) N p - p then flt f 1 p else f) → Q (if sc (dgT T) N p = p then 0 else nuV T N p) m) : W_md_digits 99999 v Q := by
  have hN := hT.1
  refine w_md_digits (b_md_digits_0 (p_md_isDigit hT hC ⟨hp.1, by omega⟩ (zf (fun c => ?_) (fun c => ?_))))
  · unfold T_md_digits_18
    rw [hC.2.1]
    have hsp : sc (dgT T) N p = sc (dgT T) N (p + 1) := sc_1 c.1 c.2
    have hsb := sc_bd (P := dgT T) (N := N) (p := p + 1) (by omega)
    have hne : ¬ sc (dgT T) N p = p := by omega
    rw [if_neg hne, if_neg hne] at h
    have loop : ∀ i : Int, ∀ (y : Int) (m : Mem), p ≤ i → i ≤ N → dB (i - p) y → FrJ 34 (fun j => j = 33) v m → RX m T N i → sc (dgT T) N p = sc (dgT T) N i → nuV T N p = dv T N p i y → K_md_digits_25 Q 99999 p y m := by
      refine fun i => ind_up (P := fun i => ∀ (y : Int) (m : Mem), p ≤ i → i ≤ N → dB (i - p) y → FrJ 34 (fun j => j = 33) v m → RX m T N i → sc (dgT T) N p = sc (dgT T) N i → nuV T N p = dv T N p i y → K_md_digits_25 Q 99999 p y m) N (fun i ih y m i0 i1 hB hF hCm he hv => ?_) i
      have vb : 0 ≤ y ∧ y ≤ 99999 := ⟨hB.1, hB.2.2.2.2.2.2⟩
      refine b_md_digits_25 ?_
      unfold T_md_digits_25
      refine p_md_isDigit hT hCm ⟨by omega, by omega⟩ (zt (fun hd => ?_) (fun hno => ?_))
      · have go : ∀ y' : Int, y' = (if i - p < 5 then y * 10 + T i - 48 else y) → T_md_digits_58 Q 99999 p y' m := fun y' e => by
          unfold T_md_digits_58
          intro s1 x1
          obtain ⟨z1, z2, z3⟩ := updM_f x1
          have hf : FrJ 34 (fun j => j = 33) m s1 := ⟨z1, fun j q => z2 j q⟩
          rw [sc_1 (p := i) hd.1 hd.2] at he
          rw [dv_1 hd.1 hd.2, ← e] at hv
          have hB2 := dB_1 hd.2 hB i0
          rw [← e] at hB2
          exact ih hd.1 y' s1 (by omega) (by omega) hB2 (hF.tr hf) (hCm.st hf (by omega) (by omega) (by rw [z3, uA_s, hCm.2.1])) he hv
        rw [hCm.2.1, wr_id (x := i - p) (by omega) (by omega)]
        refine ⟨fun c5 => go y (by rw [if_neg (by omega)]), fun c5 => p_md_sign hT hCm ⟨by omega, by omega⟩ ?_⟩
        have ep : pk T N i = T i := if_pos hd.1
        rw [ep]
        refine go _ ?_
        rw [if_pos (by omega)]
        omega
      · rw [sc_0 hno] at he
        rw [dv_0 hno] at hv
        rw [he, hv] at h
        unfold T_md_digits_72 T_md_digits_87 T_md_digits_93
        rw [hCm.2.1, wr_id (x := i - p) (by omega) (by omega), wr_id (x := y) (by omega) (by omega)]
        refine ⟨fun c5 => p_md_fails (f := f) (by rw [hF.2 34 (by omega)]; exact hf) hb (fun u hFu hfu => ?_), fun c5 => ⟨fun _ => ?_, fun z => absurd vb.2 z⟩⟩
        · rw [if_pos c5] at h
          exact h u ((hF.mono (fun j q => Or.inl q)).tr (hFu.mono (fun j q => Or.inr q))) (hCm.st hFu (by omega) (by omega) (by rw [hFu.2 33 (by omega)]; exact hCm.2.1)) hfu
        · rw [if_neg c5] at h
          exact h m (hF.mono (fun j q => Or.inl q)) hCm (by rw [hF.2 34 (by omega)]; exact hf)
    exact loop p 0 v (by omega) hp.2 (dB_0 p) FrJ.rf hC rfl rfl
  · rw [hC.2.1]
    have e0 : sc (dgT T) N p = p := sc_0 c
    rw [e0, if_pos rfl, if_pos rfl] at h
    refine p_md_fails hf hb (fun m hF hm => ?_)
    exact h m (hF.mono (fun j q => Or.inr q)) (hC.st hF (by omega) (by omega) (by rw [hF.2 33 (by omega)]; exact hC.2.1)) hm
/-- a NUMBER as told: its fault, or 0 -/
def amF (T : Int → Int) (N lo hi a : Int) : Int := if sc (dgT T) N a = a then 1 + 8 * a else if 5 < sc (dgT T) N a - a ∨ nuV T N a < lo ∨ hi < nuV T N a then 1 + 8 * a + 1 else 0
def amV (T : Int → Int) (N a : Int) : Int := if sc (dgT T) N a = a then 0 else nuV T N a
theorem p_md_amount {v : Mem} {T : Int → Int} {N p f lo hi : Int} {Q : Int → Mem → Prop} (hT : TX T N) (hC : RX v T N p) (hp : 0 ≤ p ∧ p ≤ N) (hf : v 34 34 0 = f) (hb : 0 ≤ f ∧ f ≤ 100000) (hlo : I32 lo) (hhi : I32 hi)
    (h : ∀ m q, FrJ 34 (fun j => j = 33 ∨ j = 34) v m → (0 ≤ q ∧ q ≤ N) → RX m T N q → (f = 0 → q = sc (dgT T) N (sc (blT T) N p) ∧ m 34 34 0 = amF T N lo hi (sc (blT T) N p)) → (¬ f = 0 → m 34 34 0 = f) → Q (if f = 0 then amV T N (sc (blT T) N p) else 0) m) : W_md_amount lo hi v Q := by
  have hN := hT.1
  have hnb := sc_bd (P := blT T) hp.2
  have hde := sc_bd (P := dgT T) (N := N) (p := sc (blT T) N p) hnb.2
  have hnv := nuV_bd (T := T) (N := N) (a := sc (blT T) N p)
  refine w_md_amount (b_md_amount_0 (p_md_blanks hT hC ⟨hp.1, by omega⟩ (fun m hF hCm => ?_)))
  rw [hF.2 34 (by omega), hf, wr_id (x := f) (by omega) (by omega)]
  refine ⟨fun c => ?_, fun c => ?_⟩
  · rw [if_neg c] at h
    unfold T_md_amount_26 T_md_amount_27 T_md_amount_55
    rw [hF.2 34 (by omega), hf, wr_id (x := f) (by omega) (by omega)]
    refine br_t c ?_
    exact h m _ (hF.mono (fun j q => Or.inl q)) (by omega) hCm (fun z => absurd z c) (fun _ => by rw [hF.2 34 (by omega)]; exact hf)
  · have f0 : f = 0 := Decidable.byContradiction c
    subst f0
    rw [if_pos rfl] at h
    rw [hCm.2.1]
    refine p_md_digits hT hCm (by omega) (f := 0) (by rw [hF.2 34 (by omega)]; exact hf) (by omega) (fun u hFu hCu hfu => ?_)
    have hF2 := (hF.mono (S' := fun j => j = 33 ∨ j = 34) (fun j q => Or.inl q)).tr hFu
    unfold T_md_amount_27 T_md_amount_55
    unfold amV amF at h
    generalize sc (dgT T) N (sc (blT T) N p) = e at hde h hCu hfu ⊢
    generalize sc (blT T) N p = a at hnb hde hnv h hCu hfu ⊢
    by_cases c1 : e = a
    · rw [if_pos c1] at hfu h ⊢
      have h := h u e hF2 (by omega) hCu (fun _ => ⟨rfl, by rw [hfu]; unfold flt; rw [if_pos rfl]; omega⟩) (fun z => absurd rfl z)
      rw [if_pos c1] at h
      rw [hfu, show wr (flt 0 0 a) = 1 + 8 * a + 0 from wr_id (by unfold flt; rw [if_pos rfl]; omega) (by unfold flt; rw [if_pos rfl]; omega)]
      exact br_t (by omega) h
    · rw [if_neg c1] at hfu h ⊢
      rw [if_neg c1] at h
      by_cases c2 : 5 < e - a
      · rw [if_pos c2] at hfu
        rw [if_pos (Or.inl c2)] at h
        have h := h u e hF2 (by omega) hCu (fun _ => ⟨rfl, by rw [hfu]; unfold flt; rw [if_pos rfl]⟩) (fun z => absurd rfl z)
        rw [hfu, show wr (flt 0 1 a) = 1 + 8 * a + 1 from wr_id (by unfold flt; rw [if_pos rfl]; omega) (by unfold flt; rw [if_pos rfl]; omega)]
        exact br_t (by omega) h
      · rw [if_neg c2] at hfu
        rw [hfu]
        have wn : wr (nuV T N a) = nuV T N a := wr_id (by omega) (by omega)
        refine br_f (by decide) (p_in (a' := nuV T N a) (b' := lo) (c' := hi) (by rw [wn]; exact wL_id (by omega) (by omega)) hlo.wl hhi.wl (zf (fun c3 => ?_) (fun c3 => ?_)))
        · rw [if_neg (by omega)] at h
          exact h u e hF2 (by omega) hCu (fun _ => ⟨rfl, hfu⟩) (fun z => absurd rfl z)
        · rw [if_pos (by omega)] at h
          refine p_md_fails hfu (by omega) (fun w hFw hfw => ?_)
          exact h w e (hF2.tr (hFw.mono (fun j q => Or.inr q))) (by omega) (hCu.st hFw (by omega) (by omega) (by rw [hFw.2 33 (by omega)]; exact hCu.2.1)) (fun _ => ⟨rfl, by rw [hfw]; unfold flt; rw [if_pos rfl]⟩) (fun z => absurd rfl z)
