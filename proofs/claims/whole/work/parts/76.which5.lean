/-! ===== WHICH: the reference's side ===== -/
theorem p_md_findsFew {nb : Nat} {s : Mem} {Q : Int → Mem → Prop} (eb : s 34 2 0 = (nb : Int)) (hnb : nb ≤ 12) (hf : ∀ k : Nat, k < nb → 0 ≤ s 34 3 (k : Int) ∧ s 34 3 (k : Int) ≤ 480)
    (h0 : few (s 34 3) nb = none → ∀ t, FrJ 34 (fun j => 60 ≤ j ∧ j ≤ 62) s t → Q 0 t) (h1 : ∀ q, few (s 34 3) nb = some q → ∀ t, FrJ 34 (fun j => 60 ≤ j ∧ j ≤ 62) s t → t 34 62 0 = (q.1 : Int) → (∀ i : Int, 0 ≤ i → i < q.1 → t 34 60 i = q.2.1 i) → (∀ i : Int, 0 ≤ i → i < 3 → t 34 61 i = q.2.2 i) → Q 1 t) : W_md_findsFew s Q := by
  refine w_md_findsFew (b_md_findsFew_0 ?_)
  intro s1 x1
  obtain ⟨a1, a2, a3⟩ := updM_f x1
  have walk : ∀ d b : Nat, nb - b = d → b ≤ nb → ∀ (q : Nat × ((Int → Int) × (Int → Int))) (t : Mem), few (s 34 3) b = some q → FrJ 34 (fun j => 60 ≤ j ∧ j ≤ 62) s t → t 34 62 0 = (q.1 : Int) → (∀ i : Int, 0 ≤ i → i < q.1 → t 34 60 i = q.2.1 i) → (∀ i : Int, 0 ≤ i → i < 3 → t 34 61 i = q.2.2 i) → K_md_findsFew_27 Q (b : Int) t := by
    intro d
    induction d with
    | zero =>
      intro b hd hb q t hq hF h62 h60 h61
      have e : b = nb := by omega
      subst e
      refine b_md_findsFew_27 ?_
      unfold T_md_findsFew_27 T_md_findsFew_108
      rw [hF.2 2 (by omega), eb, wr_id (x := (b : Int)) (by omega) (by omega)]
      exact ⟨fun _ => h1 q hq t hF h62 h60 h61, fun z => by omega⟩
    | succ d ih =>
      intro b hd hb q t hq hF h62 h60 h61
      obtain ⟨q3, -, -⟩ := few_ok b q (fun k hk => (hf k (by omega)).1) hq
      have hfb := hf b (by omega)
      have hs := few_s hq
      refine b_md_findsFew_27 ?_
      unfold T_md_findsFew_27 T_md_findsFew_102 T_md_findsFew_65 T_md_findsFew_67 T_md_findsFew_102
      rw [hF.2 2 (by omega), hF.2 3 (by omega), eb, wr_id (x := (nb : Int)) (by omega) (by omega), wr_id (x := (b : Int)) (by omega) (by omega), wr_id (x := s 34 3 (b : Int)) (by omega) (by omega), h62, wr_id (x := (q.1 : Int)) (by omega) (by omega)]
      have ih := ih (b + 1) (by omega) (by omega)
      rw [show ((b + 1 : Nat) : Int) = (b : Int) + 1 by omega] at ih
      have bad : ¬ s 34 3 (b : Int) = 0 → (3 ≤ q.1 ∨ 40 < s 34 3 (b : Int)) → Q 0 t := fun c1 c2 => by
        rw [if_neg c1, if_pos c2] at hs
        exact h0 (few_none hs nb (by omega)) t hF
      refine ⟨fun z => by omega, fun _ => ⟨by omega, fun c1 => ?_, fun c1 => ⟨fun c2 => bad (by omega) (by omega), fun c2 => ⟨by omega, fun c3 => ⟨by omega, fun s2 x2 => ⟨by omega, ?_⟩⟩, fun c3 => bad (by omega) (by omega)⟩⟩⟩⟩
      · rw [if_pos (by omega)] at hs
        exact ih q t hs hF h62 h60 h61
      · obtain ⟨b1, b2, b3⟩ := updM_f x2
        rw [b2 62 (by omega), h62, wr_id (x := (q.1 : Int)) (by omega) (by omega), b2 3 (by omega), hF.2 3 (by omega)]
        refine ⟨by omega, fun s3 x3 s4 x4 => ?_⟩
        obtain ⟨d1, d2, d3⟩ := updM_f x3
        obtain ⟨e1, e2, e3⟩ := updM_f x4
        rw [if_neg (by omega), if_neg (by omega)] at hs
        refine ih _ s4 hs (hF.tr ⟨fun o q => by rw [e1 o q, d1 o q, b1 o q], fun j q => by rw [e2 j (by omega), d2 j (by omega), b2 j (by omega)]⟩) ?_ (fun i i0 i1 => ?_) (fun i i0 i1 => ?_)
        · rw [e3, uA_s, d2 62 (by omega), b2 62 (by omega), h62]
          show _ = ((q.1 + 1 : Nat) : Int)
          omega
        · have i1 : i < ((q.1 + 1 : Nat) : Int) := i1
          show s4 34 60 i = uA q.2.1 (q.1 : Int) (b : Int) i
          rw [e2 60 (by omega), d2 60 (by omega), b3]
          by_cases z : i = (q.1 : Int)
          · rw [uA_e _ z, uA_e _ z]
          · rw [uA_n _ z, uA_n _ z]
            exact h60 i i0 (by omega)
        · show s4 34 61 i = uA q.2.2 (q.1 : Int) (s 34 3 (b : Int)) i
          rw [e2 61 (by omega), d3, b2 61 (by omega)]
          by_cases z : i = (q.1 : Int)
          · rw [uA_e _ z, uA_e _ z]
          · rw [uA_n _ z, uA_n _ z]
            exact h61 i i0 i1
  have init : ∀ d i : Nat, 3 - i = d → i ≤ 3 → ∀ t : Mem, FrJ 34 (fun j => 60 ≤ j ∧ j ≤ 62) s t → t 34 62 0 = 0 → (∀ x : Int, 0 ≤ x → x < i → t 34 61 x = 0) → K_md_findsFew_7 Q (i : Int) t := by
    intro d
    induction d with
    | zero =>
      intro i hd hi t hF h62 hv
      refine b_md_findsFew_7 ?_
      unfold T_md_findsFew_7 T_md_findsFew_25
      rw [wr_id (x := (i : Int)) (by omega) (by omega)]
      refine ⟨fun _ => ?_, fun z => by omega⟩
      exact walk nb 0 (by omega) (by omega) _ t rfl hF h62 (fun x x0 x1 => absurd x1 (by show ¬ x < ((0 : Nat) : Int); omega)) (fun x x0 x1 => hv x x0 (by omega))
    | succ d ih =>
      intro i hd hi t hF h62 hv
      refine b_md_findsFew_7 ?_
      unfold T_md_findsFew_7
      rw [wr_id (x := (i : Int)) (by omega) (by omega)]
      refine ⟨fun z => by omega, fun _ => ⟨by omega, fun s2 x2 => ?_⟩⟩
      obtain ⟨b1, b2, b3⟩ := updM_f x2
      have := ih (i + 1) (by omega) (by omega) s2 (hF.tr ⟨b1, fun j q => b2 j (by omega)⟩) (by rw [b2 62 (by omega)]; exact h62) (fun x x0 x1 => by
        rw [b3]
        by_cases z : x = (i : Int)
        · rw [uA_e _ z]
        · rw [uA_n _ z]
          exact hv x x0 (by omega))
      rw [show ((i + 1 : Nat) : Int) = (i : Int) + 1 by omega] at this
      exact this
  exact init 3 0 (by omega) (by omega) s1 ⟨a1, fun j q => a2 j (by omega)⟩ (by rw [a3, uA_s]) (fun x x0 x1 => by omega)
theorem p_md_allWeights {s : Mem} {Q : Int → Mem → Prop} (h : Q (smL (fun k => s 34 27 (k + 1)) 8) s) : W_md_allWeights s Q := by
  refine w_md_allWeights (b_md_allWeights_0 ?_)
  have loop : ∀ d k : Nat, 8 - k = d → k ≤ 8 → K_md_allWeights_4 Q (smL (fun k => s 34 27 (k + 1)) k) ((k : Int) + 1) s := by
    intro d
    induction d with
    | zero =>
      intro k hd hk
      have e : k = 8 := by omega
      subst e
      refine b_md_allWeights_4 ?_
      unfold T_md_allWeights_4 T_md_allWeights_25
      exact ⟨fun _ => h, fun z => absurd (by decide) z⟩
    | succ d ih =>
      intro k hd hk
      refine b_md_allWeights_4 ?_
      have ih : K_md_allWeights_4 Q (smL (fun k => s 34 27 (k + 1)) k + s 34 27 ((k : Int) + 1)) (((k + 1 : Nat) : Int) + 1) s := ih (k + 1) (by omega) (by omega)
      rw [show ((k + 1 : Nat) : Int) = (k : Int) + 1 by omega] at ih
      unfold T_md_allWeights_4
      rw [wr_id (x := (k : Int) + 1) (by omega) (by omega)]
      exact ⟨fun z => by omega, fun _ => ⟨by omega, ih⟩⟩
  have := loop 8 0 (by omega) (by omega)
  exact this
/-- a state: three BALES' EIGHTHS -/
def enc (a b c : Int) : Int := a + 41 * b + 1681 * c
def plc (k : Int) : Int := if k = 0 then 1 else if k = 1 then 41 else 1681
theorem p_md_placeOf {k : Int} {s : Mem} {Q : Int → Mem → Prop} (hk : 0 ≤ k ∧ k < 3) (h : Q (plc k) s) : W_md_placeOf k s Q := by
  unfold plc at h
  refine w_md_placeOf (b_md_placeOf_0 ?_)
  unfold T_md_placeOf_0 T_md_placeOf_8 T_md_placeOf_18 T_md_placeOf_21
  rw [wr_id (x := k) (by omega) (by omega)]
  refine ⟨fun c => ⟨fun c2 => ?_, fun c2 => ?_⟩, fun c => ?_⟩
  · rw [if_neg c, if_neg c2] at h
    exact h
  · rw [if_neg c, if_pos (Decidable.byContradiction c2)] at h
    exact h
  · rw [if_pos (Decidable.byContradiction c)] at h
    exact h
theorem p_md_leftIn {a b c k : Int} {s : Mem} {Q : Int → Mem → Prop} (ha : 0 ≤ a ∧ a ≤ 40) (hb : 0 ≤ b ∧ b ≤ 40) (hc : 0 ≤ c ∧ c ≤ 40) (hk : 0 ≤ k ∧ k < 3) (h : Q (if k = 0 then a else if k = 1 then b else c) s) : W_md_leftIn (enc a b c) k s Q := by
  refine w_md_leftIn (b_md_leftIn_0 (p_md_placeOf hk ?_))
  unfold enc
  rcases (show k = 0 ∨ k = 1 ∨ k = 2 by omega) with q | q | q <;> subst q
  · have e : plc 0 = 1 := rfl
    have h : Q a s := h
    rw [e, idv_p (by omega) (by omega), irm_p (by omega) (by omega), show (a + 41 * b + 1681 * c) / 1 % 41 = a by omega]
    exact ⟨by decide, h⟩
  · have e : plc 1 = 41 := rfl
    have h : Q b s := h
    rw [e, idv_p (by omega) (by omega), irm_p (by omega) (by omega), show (a + 41 * b + 1681 * c) / 41 % 41 = b by omega]
    exact ⟨by decide, h⟩
  · have e : plc 2 = 1681 := rfl
    have h : Q c s := h
    rw [e, idv_p (by omega) (by omega), irm_p (by omega) (by omega), show (a + 41 * b + 1681 * c) / 1681 % 41 = c by omega]
    exact ⟨by decide, h⟩
theorem p_md_stateBehind {a b c k n th : Int} {s : Mem} {Q : Int → Mem → Prop} (ha : 0 ≤ a ∧ a ≤ 40) (hb : 0 ≤ b ∧ b ≤ 40) (hc : 0 ≤ c ∧ c ≤ 40) (hk : 0 ≤ k ∧ k < 3) (hn : 1 ≤ n ∧ n ≤ 480) (et : s 34 2 2 = th) (hth : 0 ≤ th ∧ th ≤ 8) (h : Q (enc (if k = 0 then beh th a n else a) (if k = 1 then beh th b n else b) (if k = 2 then beh th c n else c)) s) : W_md_stateBehind (enc a b c) k n s Q := by
  refine w_md_stateBehind (b_md_stateBehind_0 (p_md_placeOf hk (p_md_leftIn ha hb hc hk ?_)))
  rcases (show k = 0 ∨ k = 1 ∨ k = 2 by omega) with q | q | q <;> subst q
  · refine p_md_taken (by show -100000 ≤ a ∧ a ≤ 100000; omega) (by omega) ?_
    have e : enc (beh th a n) b c = enc a b c - plc 0 * tkn a n (s 34 2 2) := by
      rw [et]
      unfold enc beh tkn plc
      rw [if_pos rfl]
      split <;> omega
    have h : Q (enc (beh th a n) b c) s := h
    rw [e] at h
    exact h
  · refine p_md_taken (by show -100000 ≤ b ∧ b ≤ 100000; omega) (by omega) ?_
    have e : enc a (beh th b n) c = enc a b c - plc 1 * tkn b n (s 34 2 2) := by
      rw [et]
      unfold enc beh tkn plc
      rw [if_neg (by decide), if_pos rfl]
      split <;> omega
    have h : Q (enc a (beh th b n) c) s := h
    rw [e] at h
    exact h
  · refine p_md_taken (by show -100000 ≤ c ∧ c ≤ 100000; omega) (by omega) ?_
    have e : enc a b (beh th c n) = enc a b c - plc 2 * tkn c n (s 34 2 2) := by
      rw [et]
      unfold enc beh tkn plc
      rw [if_neg (by decide), if_neg (by decide)]
      split <;> omega
    have h : Q (enc a b (beh th c n)) s := h
    rw [e] at h
    exact h
