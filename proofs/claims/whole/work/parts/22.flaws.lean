theorem wr_1 : wr 1 = 1 := by decide
theorem ei_nat {i : Int} (h : 0 ≤ i) : ((i.toNat : Nat) : Int) = i := by omega
theorem et_nat {i : Int} (h : 0 ≤ i) : (i + 1).toNat = i.toNat + 1 := by omega
theorem p_sh_shorten {o : Nat} {b n : Int} {s : Mem} {Q : Mem → Prop} (ho : cls o = 5) (hn : 0 ≤ s o 7 0 ∧ s o 7 0 ≤ 16) (hb : 0 ≤ b ∧ b < 12) (hn2 : wr n = n) (hv : ∀ k, 0 ≤ k → k < s o 7 0 → wr (s o 5 k) = s o 5 k ∧ wr (s o 6 k) = s o 6 k)
    (h : ∀ t, FrJ o (fun j => j = 0 ∨ j = 5 ∨ j = 6 ∨ j = 7) s t → t o 0 = uA (s o 0) b (s o 0 b - n) → (0 ≤ t o 7 0 ∧ t o 7 0 ≤ s o 7 0) → clL (t o 5) (t o 6) (t o 7 0).toNat = shL b n (clL (s o 5) (s o 6) (s o 7 0).toNat) → Q t) : W_sh_shorten o b n s Q := by
  refine w_sh_shorten (b_sh_shorten_0 ho ?_)
  have wb : wr b = b := wr_id (by omega) (by omega)
  have loop : ∀ i : Int, ∀ (kp : Int) (t : Mem), (0 ≤ kp ∧ kp ≤ i) → i ≤ s o 7 0 → FrJ o (fun j => j = 5 ∨ j = 6) s t → (∀ k, i ≤ k → t o 5 k = s o 5 k ∧ t o 6 k = s o 6 k) → clL (t o 5) (t o 6) kp.toNat = shL b n (clL (s o 5) (s o 6) i.toNat) → K_sh_shorten_5 Q o b n kp i t := by
    refine fun i => ind_up (P := fun i => ∀ (kp : Int) (t : Mem), (0 ≤ kp ∧ kp ≤ i) → i ≤ s o 7 0 → FrJ o (fun j => j = 5 ∨ j = 6) s t → (∀ k, i ≤ k → t o 5 k = s o 5 k ∧ t o 6 k = s o 6 k) → clL (t o 5) (t o 6) kp.toNat = shL b n (clL (s o 5) (s o 6) i.toNat) → K_sh_shorten_5 Q o b n kp i t) (s o 7 0) (fun i ih kp t hk h1 hF hr hc => ?_) i
    have f7 : t o 7 = s o 7 := hF.2 7 (by omega)
    have f0 : t o 0 = s o 0 := hF.2 0 (by omega)
    have e1 : wr (s o 7 0) = s o 7 0 := wr_id (by omega) (by omega)
    have e2 : wr i = i := wr_id (by omega) (by omega)
    have e3 : wr kp = kp := wr_id (by omega) (by omega)
    refine b_sh_shorten_5 ho ?_
    unfold T_sh_shorten_5
    rw [f7, e1, e2]
    refine ⟨fun c => ?_, fun c => ⟨⟨by omega, by omega⟩, ?_⟩⟩
    · unfold T_sh_shorten_103
      rw [wb]
      rintro s1 rfl
      refine ⟨⟨hb.1, hb.2⟩, ⟨hb.1, hb.2⟩, ?_⟩
      rintro s2 rfl
      have hi : i = s o 7 0 := by omega
      subst hi
      have g0 : updM t o 7 0 kp o 0 = s o 0 := by rw [updM_j t (by omega), f0]
      refine h _ ?_ ?_ ?_ ?_
      · exact ((hF.mono (fun j q => by omega)).tr (FrJ.upd (by omega))).tr (FrJ.upd (by omega))
      · rw [updM_s, g0]
      · rw [updM_j _ (by omega), updM_s, uA_s]
        omega
      · rw [updM_j _ (by omega), updM_j _ (by omega), updM_j _ (by omega), updM_j _ (by omega), updM_j _ (by omega), updM_s, uA_s]
        exact hc
    · obtain ⟨v1, v2⟩ := hv i (by omega) (by omega)
      obtain ⟨r1, r2⟩ := hr i (Int.le_refl i)
      rw [r1, v1, wb]
      have hi0 : 0 ≤ i := by omega
      have hsc : shL b n (clL (s o 5) (s o 6) (i + 1).toNat) = shL b n (clL (s o 5) (s o 6) i.toNat) ++ (if s o 5 i = b then (if s o 6 i < n then [] else [(s o 5 i, s o 6 i - n)]) else [(s o 5 i, s o 6 i)]) := by
        rw [et_nat hi0, clL_succ, shL_app, ei_nat hi0]
      have step : ∀ v : Int, (v = if s o 5 i = b then s o 6 i - n else s o 6 i) → (s o 5 i = b → ¬ s o 6 i < n) → K_sh_shorten_5 Q o b n (kp + 1) (i + 1) (updM (updM t o 5 kp (s o 5 i)) o 6 kp v) := by
        intro v hv1 hv2
        refine ih (by omega) (kp + 1) _ (by omega) (by omega) ((hF.tr (FrJ.upd (by omega))).tr (FrJ.upd (by omega))) (fun k hk2 => ?_) ?_
        · rw [updM_j _ (by omega), updM_s, updM_s, updM_j _ (by omega), uA_n _ (by omega), uA_n _ (by omega)]
          exact hr k (by omega)
        · rw [et_nat hk.1, clL_succ, updM_j _ (by omega), updM_s, updM_s, updM_j _ (by omega), ei_nat hk.1, uA_s, uA_s, hsc, ← hc]
          have hcc : clL (uA (t o 5) kp (s o 5 i)) (uA (t o 6) kp v) kp.toNat = clL (t o 5) (t o 6) kp.toNat := clL_congr fun k hk3 => ⟨uA_n _ (by omega), uA_n _ (by omega)⟩
          rw [hcc]
          congr 1
          by_cases q : s o 5 i = b
          · rw [if_pos q] at hv1 ⊢
            rw [if_neg (hv2 q), hv1]
          · rw [if_neg q] at hv1 ⊢
            rw [hv1]
      have fin : ∀ as0 : Int, (as0 = if s o 5 i = b then 1 else 0) → (s o 5 i = b → ¬ s o 6 i < n) → T_sh_shorten_51 Q o b n kp i as0 t := by
        intro as0 ha hv2
        unfold T_sh_shorten_51 T_sh_shorten_86 T_sh_shorten_93 T_sh_shorten_97
        rw [e2, e3]
        refine ⟨⟨by omega, by omega⟩, ⟨by omega, by omega⟩, ?_⟩
        rintro s1 rfl
        have g6 : updM t o 5 kp (t o 5 i) o 6 = t o 6 := updM_j _ (by omega)
        rw [g6, r1, r2]
        by_cases q : s o 5 i = b
        · rw [if_pos q] at ha
          subst ha
          rw [wr_1]
          refine ⟨fun c => absurd c (by decide), fun c => ⟨⟨by omega, by omega⟩, ⟨by omega, by omega⟩, ?_⟩⟩
          rintro s2 rfl
          exact step _ (by rw [if_pos q]) hv2
        · rw [if_neg q] at ha
          subst ha
          rw [wr_0]
          refine ⟨fun c => ⟨⟨by omega, by omega⟩, ⟨by omega, by omega⟩, ?_⟩, fun c => absurd rfl c⟩
          rintro s2 rfl
          exact step _ (by rw [if_neg q]) hv2
      unfold T_sh_shorten_29 T_sh_shorten_30
      refine ⟨fun c2 => ⟨fun _ => fin 0 (by rw [if_neg c2]) (fun q => absurd q c2), fun c3 => absurd wr_0 c3⟩, fun c2 => ⟨fun c3 => absurd c3 (by decide), fun _ => ⟨by rw [e2]; exact ⟨by omega, by omega⟩, ?_⟩⟩⟩
      rw [e2, r2, v2, hn2]
      have c2' : s o 5 i = b := by omega
      refine ⟨fun c3 => fin 1 (by rw [if_pos c2']) (fun _ => by omega), fun c3 => ?_⟩
      unfold T_sh_shorten_97
      refine ih (by omega) kp t (by omega) (by omega) hF (fun k hk2 => hr k (by omega)) ?_
      rw [hsc, if_pos c2', if_pos (by omega), List.append_nil]
      exact hc
  refine loop 0 0 s ⟨Int.le_refl _, Int.le_refl _⟩ hn.1 FrJ.rf (fun _ _ => ⟨rfl, rfl⟩) ?_
  rfl
theorem p_md_takes0 {b n : Int} {s : Mem} {Q : Mem → Prop} (hm : 0 ≤ s 34 2 1 ∧ s 34 2 1 ≤ 16) (hb : 0 ≤ b ∧ b < 12) (hn : 0 ≤ n ∧ n ≤ 1000) (hv : ∀ k, 0 ≤ k → k < s 34 2 1 → (-1 ≤ s 34 7 k ∧ s 34 7 k ≤ 1000) ∧ (-1 ≤ s 34 8 k ∧ s 34 8 k ≤ 1000))
    (h : ∀ t, FrJ 34 (fun j => j = 3 ∨ j = 8) s t → t 34 3 = uA (s 34 3) b (s 34 3 b - n) → (∀ k, 0 ≤ k → k < s 34 2 1 → t 34 8 k = if s 34 7 k = b ∧ ¬ s 34 8 k = -1 then (if s 34 8 k < n then -1 else s 34 8 k - n) else s 34 8 k) → flL (t 34 7) (t 34 8) (t 34 2 1).toNat = shL b n (flL (s 34 7) (s 34 8) (s 34 2 1).toNat) → Q t) : W_md_takes0 b n s Q := by
  refine w_md_takes0 (b_md_takes0_0 ?_)
  have wb : wr b = b := wr_id (by omega) (by omega)
  have wn : wr n = n := wr_id (by omega) (by omega)
  let F : Int → Int := fun k => if s 34 7 k = b ∧ ¬ s 34 8 k = -1 then (if s 34 8 k < n then -1 else s 34 8 k - n) else s 34 8 k
  have loop : ∀ i : Int, ∀ t : Mem, 0 ≤ i → i ≤ s 34 2 1 → FrJ 34 (fun j => j = 8) s t → (∀ k, 0 ≤ k → k < i → t 34 8 k = F k) → (∀ k, i ≤ k → t 34 8 k = s 34 8 k) → K_md_takes0_2 Q b n i t := by
    refine fun i => ind_up (P := fun i => ∀ t : Mem, 0 ≤ i → i ≤ s 34 2 1 → FrJ 34 (fun j => j = 8) s t → (∀ k, 0 ≤ k → k < i → t 34 8 k = F k) → (∀ k, i ≤ k → t 34 8 k = s 34 8 k) → K_md_takes0_2 Q b n i t) (s 34 2 1) (fun i ih t h0 h1 hF hd hr => ?_) i
    have f2 : t 34 2 = s 34 2 := hF.2 2 (by omega)
    have f7 : t 34 7 = s 34 7 := hF.2 7 (by omega)
    have f3 : t 34 3 = s 34 3 := hF.2 3 (by omega)
    have e1 : wr (s 34 2 1) = s 34 2 1 := wr_id (by omega) (by omega)
    have e2 : wr i = i := wr_id (by omega) (by omega)
    refine b_md_takes0_2 ?_
    unfold T_md_takes0_2
    rw [f2, f7, e1, e2, wb]
    refine ⟨fun c => ?_, fun c => ⟨⟨by omega, by omega⟩, ?_⟩⟩
    · unfold T_md_takes0_66
      rw [wb]
      refine ⟨⟨hb.1, hb.2⟩, ⟨hb.1, hb.2⟩, ?_⟩
      rintro s1 rfl
      have hi : i = s 34 2 1 := by omega
      subst hi
      refine h _ ((hF.mono (fun j q => by omega)).tr (FrJ.upd (by omega))) ?_ ?_ ?_
      · rw [updM_s, f3]
      · intro k q1 q2
        rw [updM_j _ (by omega)]
        exact hd k q1 q2
      · rw [updM_j _ (by omega), updM_j _ (by omega), updM_j _ (by omega), f7, f2]
        have hgo : ∀ m : Nat, (m : Int) ≤ s 34 2 1 → flL (s 34 7) (t 34 8) m = shL b n (flL (s 34 7) (s 34 8) m) := by
          intro m
          induction m with
          | zero => intro _; rfl
          | succ m ihm =>
            intro hm2
            obtain ⟨⟨v1, v2⟩, v3, v4⟩ := hv m (by omega) (by omega)
            rw [flL_succ, flL_succ, ihm (by omega), hd m (by omega) (by omega)]
            by_cases q : s 34 8 (m : Int) = -1
            · have e : F (m : Int) = -1 := (if_neg (fun z => z.2 q)).trans q
              rw [e, if_pos rfl, if_pos q, List.append_nil, List.append_nil]
            · rw [if_neg q, shL_app]
              congr 1
              by_cases q2 : s 34 7 (m : Int) = b
              · rw [if_pos q2]
                by_cases q3 : s 34 8 (m : Int) < n
                · have e : F (m : Int) = -1 := (if_pos ⟨q2, q⟩).trans (if_pos q3)
                  rw [e, if_pos rfl, if_pos q3]
                · have e : F (m : Int) = s 34 8 (m : Int) - n := (if_pos ⟨q2, q⟩).trans (if_neg q3)
                  rw [e, if_neg (by omega), if_neg q3]
              · have e : F (m : Int) = s 34 8 (m : Int) := if_neg (fun z => q2 z.1)
                rw [e, if_neg q, if_neg q2]
        exact hgo _ (by omega)
    · obtain ⟨⟨v1, v2⟩, v3, v4⟩ := hv i h0 (by omega)
      have w1 : wr (s 34 7 i) = s 34 7 i := wr_id (by omega) (by omega)
      have w2 : wr (s 34 8 i) = s 34 8 i := wr_id (by omega) (by omega)
      have r1 := hr i (Int.le_refl i)
      rw [w1]
      have same : F i = s 34 8 i → K_md_takes0_2 Q b n (i + 1) t := by
        intro hs
        refine ih (by omega) t (by omega) (by omega) hF (fun k k0 k1 => ?_) (fun k k0 => hr k (by omega))
        by_cases q : k = i
        · rw [q, hs, r1]
        · exact hd k k0 (by omega)
      have set : ∀ v, v = F i → K_md_takes0_2 Q b n (i + 1) (updM t 34 8 i v) := by
        intro v hs
        refine ih (by omega) _ (by omega) (by omega) (hF.tr (FrJ.upd rfl)) (fun k k0 k1 => ?_) (fun k k0 => ?_)
        · rw [updM_s]
          by_cases q : k = i
          · rw [q, uA_s, hs]
          · rw [uA_n _ q]
            exact hd k k0 (by omega)
        · rw [updM_s, uA_n _ (by omega)]
          exact hr k (by omega)
      unfold T_md_takes0_60 T_md_takes0_51 T_md_takes0_59 T_md_takes0_60
      rw [r1, w2, wn, e2]
      refine ⟨fun c2 => same (if_neg (fun q => c2 q.1)), fun c2 => ⟨⟨by omega, by omega⟩, fun c3 => same (if_neg (fun q => q.2 c3)), fun c3 => ⟨⟨by omega, by omega⟩, fun c4 => ⟨⟨by omega, by omega⟩, ⟨by omega, by omega⟩, ?_⟩, fun c4 => ⟨⟨by omega, by omega⟩, ?_⟩⟩⟩⟩
      · rintro s1 rfl
        refine set _ ?_
        show _ = if s 34 7 i = b ∧ ¬ s 34 8 i = -1 then (if s 34 8 i < n then -1 else s 34 8 i - n) else s 34 8 i
        rw [if_pos ⟨by omega, c3⟩, if_neg (by omega), r1]
      · rintro s1 rfl
        refine set _ ?_
        show _ = if s 34 7 i = b ∧ ¬ s 34 8 i = -1 then (if s 34 8 i < n then -1 else s 34 8 i - n) else s 34 8 i
        rw [if_pos ⟨by omega, c3⟩, if_pos (by omega)]
  exact loop 0 s (Int.le_refl _) hm.1 FrJ.rf (fun k q1 q2 => by omega) (fun _ _ => rfl)
