/-! ===== all: the reference's table, and the call ===== -/
theorem p_md_allT {n nb : Nat} {a : Int} {s : Mem} {Q : Int → Mem → Prop} (en : s 34 2 15 = (n : Int)) (hn : n ≤ 9) (hf : ∀ k : Nat, k < n → 1 ≤ s 34 26 (k : Int) ∧ s 34 26 (k : Int) ≤ 480) (eb : s 34 2 0 = (nb : Int)) (hnb : nb ≤ 12) (hth : 0 ≤ s 34 2 2 ∧ s 34 2 2 ≤ 8) (hl : ∀ k : Nat, k < nb → 0 ≤ s 34 3 (k : Int) ∧ s 34 3 (k : Int) ≤ 480)
    (h : ∀ t best, best = chs (fun x => smB (s 34 26) x n) (cstB (fun x => smB (s 34 26) x n) (s 34 2 2) (s 34 3) nb) (2 ^ n - 1) 1 0 → best < 2 ^ n → FrJ 34 (fun j => j = 57 ∨ j = 58) s t → t 34 58 (best : Int) = phi (cstB (fun x => smB (s 34 26) x n) (s 34 2 2) (s 34 3) nb best) → T_md_all_355 Q a (best : Int) t) : T_md_all_56 Q a (((2 ^ n : Nat) : Int) - 1) s := by
  have hp := pow9 hn
  have hE1 : ∀ x, 0 < x → x < 2 ^ n → 1 ≤ smB (s 34 26) x n := fun x h0 h1 => by
    have h2 := (smB_bd (f := s 34 26) (x := x) n hf).1
    have h3 := pcn_pos n h0 h1
    omega
  have hE2 : ∀ x, x < 2 ^ n → 0 ≤ smB (s 34 26) x n ∧ smB (s 34 26) x n ≤ 4320 := fun x h1 => by
    have h2 := smB_bd (f := s 34 26) (x := x) n hf
    omega
  have hCv : ∀ b : Nat, b ≤ nb → ∀ x, x < 2 ^ n → vC' (b : Int) x (cstB (fun x => smB (s 34 26) x n) (s 34 2 2) (s 34 3) b x) := fun b hb => cstB_v hth hE1 hp.2 b (by omega) (fun k hk => hl k (by omega))
  generalize hg : (fun x : Nat => smB (s 34 26) x n) = E at h hCv
  have hgx : ∀ x, smB (s 34 26) x n = E x := fun x => by rw [← hg]
  have hE1 : ∀ a, 0 < a → a < 2 ^ n → 1 ≤ E a := fun a h0 h1 => by rw [← hgx]; exact hE1 a h0 h1
  have hE2 : ∀ a, a < 2 ^ n → 0 ≤ E a ∧ E a ≤ 4320 := fun a h1 => by rw [← hgx]; exact hE2 a h1
  have Fr : ∀ {t : Mem}, FrJ 34 (fun j => j = 57 ∨ j = 58) s t → t 34 2 = s 34 2 ∧ t 34 3 = s 34 3 ∧ t 34 26 = s 34 26 := fun F => ⟨F.2 2 (by omega), F.2 3 (by omega), F.2 26 (by omega)⟩
  have ww : wr (((2 ^ n : Nat) : Int) - 1) = ((2 ^ n : Nat) : Int) - 1 := wr_id (by omega) (by omega)
  -- which set
  have choose : ∀ f x b : Nat, x + f = 2 ^ n → b < 2 ^ n → chs E (cstB E (s 34 2 2) (s 34 3) nb) f x b = chs E (cstB E (s 34 2 2) (s 34 3) nb) (2 ^ n - 1) 1 0 → ∀ t, FrJ 34 (fun j => j = 57 ∨ j = 58) s t → (∀ x : Nat, x < 2 ^ n → t 34 58 (x : Int) = phi (cstB E (s 34 2 2) (s 34 3) nb x)) → K_md_all_267 Q a (((2 ^ n : Nat) : Int) - 1) (b : Int) (x : Int) t := by
    intro f
    induction f with
    | zero =>
      intro x b hx hb he t hF hT
      refine b_md_all_267 ?_
      unfold T_md_all_267
      have he : b = chs E (cstB E (s 34 2 2) (s 34 3) nb) (2 ^ n - 1) 1 0 := he
      rw [ww, wr_id (x := (x : Int)) (by omega) (by omega)]
      exact ⟨fun _ => h t b he hb hF (hT b hb), fun z => by omega⟩
    | succ f ih =>
      intro x b hx hb he t hF hT
      refine b_md_all_267 ?_
      have he : chs E (cstB E (s 34 2 2) (s 34 3) nb) f (x + 1) (if cstB E (s 34 2 2) (s 34 3) nb x < 1000000 ∧ (E b < E x ∨ (E x = E b ∧ cstB E (s 34 2 2) (s 34 3) nb x < cstB E (s 34 2 2) (s 34 3) nb b)) then x else b) = chs E (cstB E (s 34 2 2) (s 34 3) nb) (2 ^ n - 1) 1 0 := he
      have vx := hCv nb (Nat.le_refl _) x (by omega)
      have vb := hCv nb (Nat.le_refl _) b hb
      have lt1 := phi_lt vx vb (by omega) (by omega)
      have b1 := phi_bd vx (by omega)
      have b2 := phi_bd vb (by omega)
      have ex := hE2 x (by omega)
      have eb' := hE2 b hb
      have tx := hT x (by omega)
      have tb := hT b hb
      obtain ⟨f2, f3, f26⟩ := Fr hF
      have ih := fun b' hb' he' => ih (x + 1) b' (by omega) hb' he' t hF hT
      rw [show ((x + 1 : Nat) : Int) = (x : Int) + 1 by omega] at ih
      generalize cstB E (s 34 2 2) (s 34 3) nb x = cx at he lt1 b1 tx
      generalize cstB E (s 34 2 2) (s 34 3) nb b = cb at he lt1 b2 tb
      unfold T_md_all_267
      rw [ww, wr_id (x := (x : Int)) (by omega) (by omega)]
      have s322 : ∀ y : Int, (y = 1 ∧ (E b < E x ∨ (E x = E b ∧ cx < cb))) ∨ (y = 0 ∧ ¬ (E b < E x ∨ (E x = E b ∧ cx < cb))) → T_md_all_322 Q a (((2 ^ n : Nat) : Int) - 1) (b : Int) (x : Int) y t := fun y hy => by
        unfold T_md_all_322 T_md_all_347 T_md_all_348
        rw [wr_id (x := (x : Int)) (by omega) (by omega), tx, wr_id (x := phi cx) (by omega) (by omega), wr_id (x := y) (by omega) (by omega)]
        refine ⟨by omega, fun c1 => ?_, fun c1 => ⟨fun c2 => ?_, fun c2 => ?_⟩⟩
        · rw [if_neg (by omega)] at he
          exact ih b hb he
        · rw [if_neg (by omega)] at he
          exact ih b hb he
        · rw [if_pos ⟨by omega, by omega⟩] at he
          exact ih x (by omega) he
      have sumE : ∀ {y : Nat} {Q' : Int → Mem → Prop}, y < 2 ^ n → Q' (E y) t → W_md_sumOf (y : Int) t Q' := fun {y Q'} hy hQ => p_md_sumOf (n := n) (by rw [f2]; exact en) hn (by omega) (by rw [f26, hgx]; exact hQ)
      refine ⟨fun z => by omega, fun _ => sumE (by omega) (sumE hb ?_)⟩
      rw [wr_id (x := E x) (by omega) (by omega), wr_id (x := E b) (by omega) (by omega)]
      unfold T_md_all_317 T_md_all_321
      refine ⟨fun c1 => s322 1 (Or.inl ⟨rfl, Or.inl c1⟩), fun c1 => sumE (by omega) (sumE hb ?_)⟩
      rw [wr_id (x := E x) (by omega) (by omega), wr_id (x := E b) (by omega) (by omega), wr_id (x := (b : Int)) (by omega) (by omega), tx, tb, wr_id (x := phi cx) (by omega) (by omega), wr_id (x := phi cb) (by omega) (by omega)]
      exact ⟨fun c2 => s322 0 (Or.inr ⟨rfl, by omega⟩), fun c2 => ⟨by omega, by omega, fun c3 => s322 0 (Or.inr ⟨rfl, by omega⟩), fun c3 => s322 1 (Or.inl ⟨rfl, Or.inr ⟨by omega, by omega⟩⟩)⟩⟩
  -- BALE by BALE
  have bales : ∀ d b : Nat, nb - b = d → b ≤ nb → ∀ t, FrJ 34 (fun j => j = 57 ∨ j = 58) s t → (∀ x : Nat, x < 2 ^ n → t 34 58 (x : Int) = phi (cstB E (s 34 2 2) (s 34 3) b x)) → K_md_all_88 Q a (((2 ^ n : Nat) : Int) - 1) (b : Int) t := by
    intro d
    induction d with
    | zero =>
      intro b hd hb t hF hT
      refine b_md_all_88 ?_
      unfold T_md_all_88 T_md_all_262
      have e : b = nb := by omega
      subst e
      rw [(Fr hF).1, eb, wr_id (x := (b : Int)) (by omega) (by omega)]
      exact ⟨fun _ => choose (2 ^ n - 1) 1 0 (by omega) (by omega) rfl t hF hT, fun z => by omega⟩
    | succ d ih =>
      intro b hd hb t hF hT
      refine b_md_all_88 ?_
      unfold T_md_all_88
      rw [(Fr hF).1, eb, wr_id (x := (nb : Int)) (by omega) (by omega), wr_id (x := (b : Int)) (by omega) (by omega)]
      refine ⟨fun z => by omega, fun _ => ?_⟩
      have hlb := hl b (by omega)
      have hV := hCv b (by omega)
      have hcp : ∀ (C' : Nat → Int), (∀ x, x < 2 ^ n → C' x = phi (cstB E (s 34 2 2) (s 34 3) b x)) → ∀ x, 0 < x → x < 2 ^ n → mnP (cnR E C' (s 34 3 (b : Int)) (s 34 2 2) x) x x x (C' x) = phi (cstB E (s 34 2 2) (s 34 3) (b + 1) x) := fun C' hC' => cst_phi hth hE1 hlb (B := (b : Int)) (by omega) hp.2 hV hC'
      have wsE : ∀ x, x < 2 ^ n → wst (s 34 26) (s 34 3 (b : Int)) (s 34 2 2) n x = if E x + ((pcn x 9 : Int) - 1) * s 34 2 2 ≤ s 34 3 (b : Int) then min (s 34 3 (b : Int) - E x) ((pcn x 9 : Int) * s 34 2 2) else 1000000 := fun x hx => by
        unfold wst
        rw [hgx, ← pcn_top hx 9 hn]
      -- from the greatest set downwards
      have down : ∀ x : Nat, x < 2 ^ n → ∀ u, FrJ 34 (fun j => j = 57 ∨ j = 58) s u → (∀ y : Nat, y < 2 ^ n → u 34 57 (y : Int) = wst (s 34 26) (s 34 3 (b : Int)) (s 34 2 2) n y) → (∀ y : Nat, y < 2 ^ n → u 34 58 (y : Int) = if x < y then phi (cstB E (s 34 2 2) (s 34 3) (b + 1) y) else phi (cstB E (s 34 2 2) (s 34 3) b y)) → K_md_all_130 Q a (((2 ^ n : Nat) : Int) - 1) (b : Int) (x : Int) u := by
        intro x
        induction x with
        | zero =>
          intro hx u hFu hW hU
          refine b_md_all_130 ?_
          unfold T_md_all_130 T_md_all_256
          refine ⟨fun _ => ?_, fun z => absurd (by decide) z⟩
          have := ih (b + 1) (by omega) (by omega) u hFu (fun y hy => by
            rw [hU y hy]
            by_cases q : 0 < y
            · rw [if_pos q]
            · have : y = 0 := by omega
              subst this
              rw [if_neg q]
              rfl)
          rw [show ((b + 1 : Nat) : Int) = (b : Int) + 1 by omega] at this
          exact this
        | succ x ihx =>
          intro hx u hFu hW hU
          refine b_md_all_130 ?_
          unfold T_md_all_130
          rw [wr_id (x := ((x + 1 : Nat) : Int)) (by omega) (by omega)]
          refine ⟨fun z => by omega, fun _ => ?_⟩
          have inner : ∀ e c : Nat, c ≤ e → sub c (x + 1) → ∀ (m : Int) (v : Mem), (0 ≤ m ∧ m ≤ 1000000) → FrJ 34 (fun j => j = 57 ∨ j = 58) s v → v 34 57 = u 34 57 → v 34 58 = uA (u 34 58) ((x + 1 : Nat) : Int) m → mnP (cnR E (fun y => phi (cstB E (s 34 2 2) (s 34 3) b y)) (s 34 3 (b : Int)) (s 34 2 2) (x + 1)) (x + 1) c c m = phi (cstB E (s 34 2 2) (s 34 3) (b + 1) (x + 1)) → K_md_all_139 Q a (((2 ^ n : Nat) : Int) - 1) (b : Int) ((x + 1 : Nat) : Int) (c : Int) v := by
            intro e
            induction e with
            | zero =>
              intro c hc hs m v hm hFv v57 v58 hmn
              have : c = 0 := by omega
              subst this
              refine b_md_all_139 ?_
              unfold T_md_all_139 T_md_all_250
              refine ⟨fun _ => ?_, fun z => absurd (by decide) z⟩
              have hmn : m = phi (cstB E (s 34 2 2) (s 34 3) (b + 1) (x + 1)) := hmn
              have := ihx (by omega) v hFv (fun y hy => by rw [v57]; exact hW y hy) (fun y hy => by
                rw [v58]
                by_cases q : y = x + 1
                · rw [uA_e _ (by omega), if_pos (by omega), q, hmn]
                · rw [uA_n _ (by omega), hU y hy]
                  by_cases q2 : x + 1 < y
                  · rw [if_pos q2, if_pos (by omega)]
                  · rw [if_neg q2, if_neg (by omega)])
              rw [show (x : Int) = ((x + 1 : Nat) : Int) + (-1) by omega] at this
              exact this
            | succ e ihe =>
              intro c hc hs m v hm hFv v57 v58 hmn
              by_cases hz : c = 0
              · exact ihe c (by omega) hs m v hm hFv v57 v58 hmn
              · obtain ⟨sl, sl2, sl3⟩ := sub_le hs
                have hle : (c - 1) &&& (x + 1) ≤ c - 1 := Nat.and_le_left
                have hbA : bAnd ((c : Int) - 1) ((x + 1 : Nat) : Int) = (((c - 1) &&& (x + 1) : Nat) : Int) := by
                  rw [show (c : Int) - 1 = ((c - 1 : Nat) : Int) by omega]
                  exact bAnd_nat (by omega) (by omega)
                have hls : bAnd ((x + 1 : Nat) : Int) (bXor (c : Int) (-1)) = (((x + 1) ^^^ c : Nat) : Int) := less_sub hs (by omega)
                rw [mnP_1 (by omega)] at hmn
                have hcv := hV ((x + 1) ^^^ c) (by omega)
                have hcb := phi_bd hcv (by omega)
                have hwc := wsE c (by omega)
                have hp9 := pcn_le c 9
                have h8 : ((pcn c 9 : Int)) * s 34 2 2 ≤ (pcn c 9 : Int) * 8 := Int.mul_le_mul_of_nonneg_left hth.2 (by omega)
                have h0' : 0 ≤ (pcn c 9 : Int) * s 34 2 2 := Int.mul_nonneg (by omega) hth.1
                have hsub : ((pcn c 9 : Int) - 1) * s 34 2 2 = (pcn c 9 : Int) * s 34 2 2 - s 34 2 2 := by rw [Int.sub_mul, Int.one_mul]
                have hec := hE2 c (by omega)
                have hec1 := hE1 c (by omega) (by omega)
                have hp1 := pcn_pos (x := c) 9 (by omega) (by omega)
                have h0'' : 0 ≤ ((pcn c 9 : Int) - 1) * s 34 2 2 := Int.mul_nonneg (by omega) hth.1
                have next : ∀ y : Int, (0 ≤ y ∧ y ≤ 2000000) → y = cnR E (fun y => phi (cstB E (s 34 2 2) (s 34 3) b y)) (s 34 3 (b : Int)) (s 34 2 2) (x + 1) c → T_md_all_205 Q a (((2 ^ n : Nat) : Int) - 1) (b : Int) ((x + 1 : Nat) : Int) (c : Int) y v := fun y hy he => by
                  unfold T_md_all_205 T_md_all_230 T_md_all_237
                  rw [wr_id (x := ((x + 1 : Nat) : Int)) (by omega) (by omega), v58, uA_s, wr_id (x := m) (by omega) (by omega), wr_id (x := y) (by omega) (by omega), hbA]
                  rw [← he] at hmn
                  refine ⟨by omega, fun c1 => ⟨by omega, by omega, fun s1 x1 => ?_⟩, fun c1 => ⟨by omega, fun s1 x1 => ?_⟩⟩
                  · obtain ⟨z1, z2, z3⟩ := updM_f x1
                    rw [Int.min_eq_left c1] at hmn
                    refine ihe _ (by omega) (and_sub _ _) m s1 hm (hFv.tr ⟨z1, fun j q => z2 j (by omega)⟩) (by rw [z2 57 (by omega), v57]) ?_ hmn
                    rw [z3, v58]
                    funext i
                    by_cases q : i = ((x + 1 : Nat) : Int)
                    · rw [q, uA_s, uA_s]
                    · rw [uA_n _ q]
                  · obtain ⟨z1, z2, z3⟩ := updM_f x1
                    rw [Int.min_eq_right (by omega)] at hmn
                    refine ihe _ (by omega) (and_sub _ _) y s1 (by omega) (hFv.tr ⟨z1, fun j q => z2 j (by omega)⟩) (by rw [z2 57 (by omega), v57]) ?_ hmn
                    rw [z3, v58]
                    funext i
                    by_cases q : i = ((x + 1 : Nat) : Int)
                    · rw [q, uA_s, uA_s]
                    · rw [uA_n _ q, uA_n _ q, uA_n _ q]
                have ucost : v 34 58 (((x + 1) ^^^ c : Nat) : Int) = phi (cstB E (s 34 2 2) (s 34 3) b ((x + 1) ^^^ c)) := by
                  rw [v58, uA_n _ (by omega), hU _ (by omega), if_neg (by omega)]
                refine b_md_all_139 ?_
                unfold T_md_all_139 T_md_all_202
                rw [wr_id (x := (c : Int)) (by omega) (by omega), hls, wr_id (x := (((x + 1) ^^^ c : Nat) : Int)) (by omega) (by omega), ucost, v57, hW c (by omega)]
                generalize hw : wst (s 34 26) (s 34 3 (b : Int)) (s 34 2 2) n c = w at hwc ⊢
                have hwb : 0 ≤ w ∧ w ≤ 1000000 := by
                  rw [hwc]
                  split <;> omega
                have ecn : ∀ y : Int, (if E c + ((pcn c 9 : Int) - 1) * s 34 2 2 ≤ s 34 3 (b : Int) ∧ phi (cstB E (s 34 2 2) (s 34 3) b ((x + 1) ^^^ c)) < 1000000 then phi (cstB E (s 34 2 2) (s 34 3) b ((x + 1) ^^^ c)) + 10000 + min (s 34 3 (b : Int) - E c) ((pcn c 9 : Int) * s 34 2 2) else 1000000) = y → y = cnR E (fun y => phi (cstB E (s 34 2 2) (s 34 3) b y)) (s 34 3 (b : Int)) (s 34 2 2) (x + 1) c := fun y hy => hy.symm
                generalize phi (cstB E (s 34 2 2) (s 34 3) b ((x + 1) ^^^ c)) = pc at hcb ecn ⊢
                rw [wr_id (x := w) (by omega) (by omega), wr_id (x := pc) (by omega) (by omega)]
                refine ⟨fun z => by omega, fun _ => ⟨by omega, fun c1 => next 1000000 (by omega) (ecn _ ?_), fun c1 => ⟨by omega, fun c2 => next 1000000 (by omega) (ecn _ ?_), fun c2 => ⟨by omega, by omega, next _ (by omega) (ecn _ ?_)⟩⟩⟩⟩
                · refine if_neg (fun z => ?_)
                  rw [if_pos z.1] at hwc
                  omega
                · exact if_neg (fun z => by omega)
                · by_cases q : E c + ((pcn c 9 : Int) - 1) * s 34 2 2 ≤ s 34 3 (b : Int)
                  · rw [if_pos q] at hwc
                    rw [if_pos ⟨q, by omega⟩, hwc]
                  · rw [if_neg q] at hwc
                    omega
          have hvx := hV (x + 1) hx
          have hbx := phi_bd hvx (by omega)
          refine inner (x + 1) (x + 1) (Nat.le_refl _) (sub_rf _) (phi (cstB E (s 34 2 2) (s 34 3) b (x + 1))) u hbx.1 hFu rfl ?_ (hcp (fun y => phi (cstB E (s 34 2 2) (s 34 3) b y)) (fun _ _ => rfl) (x + 1) (by omega) hx)
          funext i
          by_cases q : i = ((x + 1 : Nat) : Int)
          · rw [q, uA_s, hU (x + 1) hx, if_neg (by omega)]
          · rw [uA_n _ q]
      -- what each set wastes
      have waste : ∀ e x : Nat, 2 ^ n - x = e → x ≤ 2 ^ n → ∀ u, FrJ 34 (fun j => j = 57 ∨ j = 58) s u → (∀ y : Nat, y < 2 ^ n → u 34 58 (y : Int) = phi (cstB E (s 34 2 2) (s 34 3) b y)) → (∀ y : Nat, y < x → u 34 57 (y : Int) = wst (s 34 26) (s 34 3 (b : Int)) (s 34 2 2) n y) → K_md_all_101 Q a (((2 ^ n : Nat) : Int) - 1) (b : Int) (x : Int) u := by
        intro e
        induction e with
        | zero =>
          intro x he hx u hFu hU hW
          refine b_md_all_101 ?_
          unfold T_md_all_101 T_md_all_127
          rw [ww, wr_id (x := (x : Int)) (by omega) (by omega)]
          refine ⟨fun _ => ?_, fun z => by omega⟩
          have := down (2 ^ n - 1) (by omega) u hFu (fun y hy => hW y (by omega)) (fun y hy => by rw [if_neg (by omega)]; exact hU y hy)
          rw [show ((2 ^ n - 1 : Nat) : Int) = ((2 ^ n : Nat) : Int) - 1 by omega] at this
          exact this
        | succ e ihe =>
          intro x he hx u hFu hU hW
          obtain ⟨f2, f3, f26⟩ := Fr hFu
          refine b_md_all_101 ?_
          unfold T_md_all_101
          rw [ww, wr_id (x := (x : Int)) (by omega) (by omega)]
          refine ⟨fun z => by omega, fun _ => p_md_wastedBy (n := n) (by rw [f2]; exact en) hn (by omega) (by omega) (by rw [f3]; exact hlb) (by rw [f2]; exact hth) (by rw [f26]; exact hf) ⟨by omega, fun s4 x4 => ?_⟩⟩
          rw [f2, f3, f26] at x4
          obtain ⟨z1, z2, z3⟩ := updM_f x4
          have := ihe (x + 1) (by omega) (by omega) s4 (hFu.tr ⟨z1, fun j q => z2 j (by omega)⟩) (fun y hy => by rw [z2 58 (by omega)]; exact hU y hy) (fun y hy => by
            rw [z3]
            by_cases q : y = x
            · subst q
              rw [uA_s]
            · rw [uA_n _ (by omega)]
              exact hW y (by omega))
          rw [show ((x + 1 : Nat) : Int) = (x : Int) + 1 by omega] at this
          exact this
      have := waste (2 ^ n) 0 (by omega) (by omega) t hF hT (fun y hy => by omega)
      exact this
  have init : ∀ d x : Nat, 2 ^ n - x = d → x ≤ 2 ^ n → ∀ t, FrJ 34 (fun j => j = 57 ∨ j = 58) s t → (∀ y : Nat, y < x → t 34 58 (y : Int) = if y = 0 then 0 else 1000000) → K_md_all_58 Q a (((2 ^ n : Nat) : Int) - 1) (x : Int) t := by
    intro d
    induction d with
    | zero =>
      intro x hd hx t hF hT
      refine b_md_all_58 ?_
      unfold T_md_all_58 T_md_all_86
      rw [ww, wr_id (x := (x : Int)) (by omega) (by omega)]
      refine ⟨fun _ => bales nb 0 (by omega) (by omega) t hF (fun y hy => ?_), fun z => by omega⟩
      rw [hT y (by omega)]
      show _ = phi (if y = 0 then 0 else 1000000)
      split <;> decide
    | succ d ih =>
      intro x hd hx t hF hT
      refine b_md_all_58 ?_
      unfold T_md_all_58 T_md_all_76 T_md_all_79
      rw [ww, wr_id (x := (x : Int)) (by omega) (by omega)]
      have ih := ih (x + 1) (by omega) (by omega)
      rw [show ((x + 1 : Nat) : Int) = (x : Int) + 1 by omega] at ih
      refine ⟨fun z => by omega, fun _ => ⟨fun c => ⟨by omega, fun s1 x1 => ?_⟩, fun c => ⟨by omega, fun s1 x1 => ?_⟩⟩⟩
      · obtain ⟨z1, z2, z3⟩ := updM_f x1
        refine ih s1 (hF.tr ⟨z1, fun j q => z2 j (by omega)⟩) (fun y hy => ?_)
        rw [z3]
        by_cases q : y = x
        · subst q
          rw [uA_s, if_neg (by omega)]
        · rw [uA_n _ (by omega)]
          exact hT y (by omega)
      · obtain ⟨z1, z2, z3⟩ := updM_f x1
        refine ih s1 (hF.tr ⟨z1, fun j q => z2 j (by omega)⟩) (fun y hy => ?_)
        rw [z3]
        by_cases q : y = x
        · subst q
          rw [uA_s, if_pos (by omega)]
        · rw [uA_n _ (by omega)]
          exact hT y (by omega)
  have := init (2 ^ n) 0 (by omega) (by omega) s FrJ.rf (fun y hy => by omega)
  exact this
