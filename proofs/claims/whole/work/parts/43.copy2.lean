theorem p_td_copyFrom {o o1 : Nat} {s : Mem} {Q : Mem → Prop} (ho : cls o = 9) (ho1 : cls o1 = 9) (hne : ¬ o1 = o) (h : ∀ t, (∀ o', ¬ o' = o → t o' = s o') → EqN toN (s o1) (t o) → Q t) : W_td_copyFrom o o1 s Q := by
  refine w_td_copyFrom (b_td_copyFrom_0 ho ho1 ?_)
  have c4 : ∀ i : Int, ∀ t, 0 ≤ i → i ≤ 6 → CP o o1 (fun j k => (k = 0 ∧ (j = 1 ∨ j = 5 ∨ j = 7)) ∨ (j = 0 ∧ 0 ≤ k ∧ k < 9) ∨ (j = 2 ∧ 0 ≤ k ∧ k < 9) ∨ ((j = 3 ∨ j = 4) ∧ 0 ≤ k ∧ k < 5) ∨ (j = 6 ∧ 0 ≤ k ∧ k < i)) s t → K_td_copyFrom_115 Q o o1 i t := by
    refine fun i => ind_up (P := fun i => ∀ t, 0 ≤ i → i ≤ 6 → CP o o1 (fun j k => (k = 0 ∧ (j = 1 ∨ j = 5 ∨ j = 7)) ∨ (j = 0 ∧ 0 ≤ k ∧ k < 9) ∨ (j = 2 ∧ 0 ≤ k ∧ k < 9) ∨ ((j = 3 ∨ j = 4) ∧ 0 ≤ k ∧ k < 5) ∨ (j = 6 ∧ 0 ≤ k ∧ k < i)) s t → K_td_copyFrom_115 Q o o1 i t) 6 (fun i ih t h0 h1 hC => ?_) i
    refine b_td_copyFrom_115 ho ho1 ?_
    unfold T_td_copyFrom_115
    rw [wr_id (x := i) (by omega) (by omega)]
    refine ⟨fun c => h t hC.1.1 (fun j k k0 k1 => hC.2 j k ?_), fun c => ⟨by omega, by omega, fun s2 x2 => ?_⟩⟩
    · unfold toN at k1
      (repeat' split at k1) <;> omega
    · exact ih (by omega) s2 (by omega) (by omega) (hC.st hne x2 (fun j' k' q => by omega))
  have c3 : ∀ i : Int, ∀ t, 0 ≤ i → i ≤ 5 → CP o o1 (fun j k => (k = 0 ∧ (j = 1 ∨ j = 5 ∨ j = 7)) ∨ (j = 0 ∧ 0 ≤ k ∧ k < 9) ∨ (j = 2 ∧ 0 ≤ k ∧ k < 9) ∨ ((j = 3 ∨ j = 4) ∧ 0 ≤ k ∧ k < i)) s t → K_td_copyFrom_78 Q o o1 i t := by
    refine fun i => ind_up (P := fun i => ∀ t, 0 ≤ i → i ≤ 5 → CP o o1 (fun j k => (k = 0 ∧ (j = 1 ∨ j = 5 ∨ j = 7)) ∨ (j = 0 ∧ 0 ≤ k ∧ k < 9) ∨ (j = 2 ∧ 0 ≤ k ∧ k < 9) ∨ ((j = 3 ∨ j = 4) ∧ 0 ≤ k ∧ k < i)) s t → K_td_copyFrom_78 Q o o1 i t) 5 (fun i ih t h0 h1 hC => ?_) i
    refine b_td_copyFrom_78 ho ho1 ?_
    unfold T_td_copyFrom_78 T_td_copyFrom_113
    rw [wr_id (x := i) (by omega) (by omega)]
    refine ⟨fun c => c4 0 t (by omega) (by omega) ⟨hC.1, fun j k q => hC.2 j k (by omega)⟩, fun c => ⟨by omega, by omega, fun s2 x2 => ⟨by omega, by omega, fun s3 x3 => ?_⟩⟩⟩
    exact ih (by omega) s3 (by omega) (by omega) ((hC.st hne x2 (fun _ _ q => q)).st hne x3 (fun j' k' q => by omega))
  have c2 : ∀ i : Int, ∀ t, 0 ≤ i → i ≤ 9 → CP o o1 (fun j k => (k = 0 ∧ (j = 1 ∨ j = 5 ∨ j = 7)) ∨ (j = 0 ∧ 0 ≤ k ∧ k < 9) ∨ (j = 2 ∧ 0 ≤ k ∧ k < i)) s t → K_td_copyFrom_52 Q o o1 i t := by
    refine fun i => ind_up (P := fun i => ∀ t, 0 ≤ i → i ≤ 9 → CP o o1 (fun j k => (k = 0 ∧ (j = 1 ∨ j = 5 ∨ j = 7)) ∨ (j = 0 ∧ 0 ≤ k ∧ k < 9) ∨ (j = 2 ∧ 0 ≤ k ∧ k < i)) s t → K_td_copyFrom_52 Q o o1 i t) 9 (fun i ih t h0 h1 hC => ?_) i
    refine b_td_copyFrom_52 ho ho1 ?_
    unfold T_td_copyFrom_52 T_td_copyFrom_76
    rw [wr_id (x := i) (by omega) (by omega)]
    refine ⟨fun c => c3 0 t (by omega) (by omega) ⟨hC.1, fun j k q => hC.2 j k (by omega)⟩, fun c => ⟨by omega, by omega, fun s2 x2 => ?_⟩⟩
    exact ih (by omega) s2 (by omega) (by omega) (hC.st hne x2 (fun j' k' q => by omega))
  have c1 : ∀ i : Int, ∀ t, 0 ≤ i → i ≤ 9 → CP o o1 (fun j k => (k = 0 ∧ (j = 1 ∨ j = 5 ∨ j = 7)) ∨ (j = 0 ∧ 0 ≤ k ∧ k < i)) s t → K_td_copyFrom_26 Q o o1 i t := by
    refine fun i => ind_up (P := fun i => ∀ t, 0 ≤ i → i ≤ 9 → CP o o1 (fun j k => (k = 0 ∧ (j = 1 ∨ j = 5 ∨ j = 7)) ∨ (j = 0 ∧ 0 ≤ k ∧ k < i)) s t → K_td_copyFrom_26 Q o o1 i t) 9 (fun i ih t h0 h1 hC => ?_) i
    refine b_td_copyFrom_26 ho ho1 ?_
    unfold T_td_copyFrom_26 T_td_copyFrom_50
    rw [wr_id (x := i) (by omega) (by omega)]
    refine ⟨fun c => c2 0 t (by omega) (by omega) ⟨hC.1, fun j k q => hC.2 j k (by omega)⟩, fun c => ⟨by omega, by omega, fun s2 x2 => ?_⟩⟩
    exact ih (by omega) s2 (by omega) (by omega) (hC.st hne x2 (fun j' k' q => by omega))
  intro s1 x1 s2 x2 s3 x3
  have z : CP o o1 (fun _ _ => False) s s := ⟨FrJ.rf, fun _ _ q => absurd q id⟩
  exact c1 0 s3 (by omega) (by omega) (((z.st hne x1 (fun _ _ q => q)).st hne x2 (fun _ _ q => q)).st hne x3 (fun j' k' q => by
    simp only [false_or]
    omega))
theorem p_sd_copyFrom {o o1 : Nat} {s : Mem} {Q : Mem → Prop} (ho : cls o = 7) (ho1 : cls o1 = 7) (hs : cls (o + 1) = 5) (hs1 : cls (o1 + 1) = 5) (ht : cls (o + 2) = 9) (ht1 : cls (o1 + 2) = 9) (hne : ¬ o1 = o) (hfar : ¬ (o1 = o + 1) ∧ ¬ (o1 = o + 2) ∧ ¬ (o = o1 + 1) ∧ ¬ (o = o1 + 2)) (h : ∀ t, FrO (fun o' => o' = o ∨ o' = o + 1 ∨ o' = o + 2) s t → (∀ j, 13 ≤ j → t o j = s o j) → EqN sdN (s o1) (t o) → EqN shN (s (o1 + 1)) (t (o + 1)) → EqN toN (s (o1 + 2)) (t (o + 2)) → Q t) : W_sd_copyFrom o o1 s Q := by
  refine w_sd_copyFrom (b_sd_copyFrom_0 ho ho1 ?_)
  refine p_sh_copyFrom hs hs1 (by omega) (fun t1 f1 e1 => p_td_copyFrom ht ht1 (by omega) (fun t2 f2 e2 => ?_))
  have q1 : t2 o1 = s o1 := by rw [f2 o1 (by omega), f1 o1 (by omega)]
  have q0 : t2 o = s o := by rw [f2 o (by omega), f1 o (by omega)]
  rw [f1 (o1 + 2) (by omega)] at e2
  have e1 : EqN shN (s (o1 + 1)) (t2 (o + 1)) := by rw [f2 (o + 1) (by omega)]; exact e1
  have f12 : ∀ o', ¬ (o' = o ∨ o' = o + 1 ∨ o' = o + 2) → t2 o' = s o' := fun o' q => by rw [f2 o' (by omega), f1 o' (by omega)]
  have c1 : ∀ i : Int, ∀ t, 0 ≤ i → i ≤ 10 → CP o o1 (fun j k => (2 ≤ j ∧ j ≤ 5) ∧ 0 ≤ k ∧ k < i) t2 t → (∀ j, 6 ≤ j → t o j = t2 o j) → K_sd_copyFrom_24 Q o o1 i t := by
    refine fun i => ind_up (P := fun i => ∀ t, 0 ≤ i → i ≤ 10 → CP o o1 (fun j k => (2 ≤ j ∧ j ≤ 5) ∧ 0 ≤ k ∧ k < i) t2 t → (∀ j, 6 ≤ j → t o j = t2 o j) → K_sd_copyFrom_24 Q o o1 i t) 10 (fun i ih t h0 h1 hC hj => ?_) i
    refine b_sd_copyFrom_24 ho ho1 ?_
    unfold T_sd_copyFrom_24 T_sd_copyFrom_84
    rw [wr_id (x := i) (by omega) (by omega)]
    refine ⟨fun c => ?_, fun c => ⟨by omega, by omega, fun s2 x2 => ⟨by omega, by omega, fun s3 x3 => ⟨by omega, by omega, fun s4 x4 => ⟨by omega, by omega, fun s5 x5 => ?_⟩⟩⟩⟩⟩
    · intro s1 x1 s2 x2 s3 x3 s4 x4 s5 x5 s6 x6 s7 x7
      have w : CP o o1 (fun j k => (2 ≤ j ∧ j ≤ 5 ∧ 0 ≤ k ∧ k < 10) ∨ (6 ≤ j ∧ j ≤ 12 ∧ k = 0)) t2 s7 := (((((((hC.st hne x1 (fun _ _ q => q)).st hne x2 (fun _ _ q => q)).st hne x3 (fun _ _ q => q)).st hne x4 (fun _ _ q => q)).st hne x5 (fun _ _ q => q)).st hne x6 (fun _ _ q => q)).st hne x7 (fun j' k' q => by omega))
      refine h s7 (fun o' q => by rw [w.1.1 o' (by omega), f12 o' q]) (fun j hj13 => ?_) (fun j k k0 k1 => ?_) ?_ ?_
      · rw [(updM_f x7).2.1 j (by omega), (updM_f x6).2.1 j (by omega), (updM_f x5).2.1 j (by omega), (updM_f x4).2.1 j (by omega), (updM_f x3).2.1 j (by omega), (updM_f x2).2.1 j (by omega), (updM_f x1).2.1 j (by omega), hj j (by omega), q0]
      · rw [← q1]
        refine w.2 j k ?_
        unfold sdN at k1
        (repeat' split at k1) <;> omega
      · rw [w.1.1 (o + 1) (by omega)]
        exact e1
      · rw [w.1.1 (o + 2) (by omega)]
        exact e2
    · refine ih (by omega) s5 (by omega) (by omega) ((((hC.st hne x2 (fun _ _ q => q)).st hne x3 (fun _ _ q => q)).st hne x4 (fun _ _ q => q)).st hne x5 (fun j' k' q => by omega)) (fun j j6 => ?_)
      rw [(updM_f x5).2.1 j (by omega), (updM_f x4).2.1 j (by omega), (updM_f x3).2.1 j (by omega), (updM_f x2).2.1 j (by omega), hj j j6]
  exact c1 0 t2 (by omega) (by omega) ⟨FrJ.rf, fun j k q => by omega⟩ (fun _ _ => rfl)
