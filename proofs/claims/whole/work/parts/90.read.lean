/-! ===== RULE: what a text tells ===== -/
def wds : List (List Int) := [[108, 101, 102, 116], [111, 114, 100, 101, 114], [114, 101, 115, 116], [102, 108, 97, 119, 115], [119, 105, 100, 116, 104], [108, 111, 116], [115, 116, 114, 105, 112, 101], [98, 97, 108, 101], [100, 97, 121]]
/-- a value: its fault, the place behind it, what is entered -/
def vlC (T : Int → Int) (N p c r p' : Int) (e : Int × Int) : Prop :=
  (¬ sc (dgT T) N (sc (blT T) N p) = sc (blT T) N p ∧ e = (0, nuV T N (sc (blT T) N p)) ∧ p' = sc (dgT T) N (sc (blT T) N p) ∧ r = (if 5 < sc (dgT T) N (sc (blT T) N p) - sc (blT T) N p then 1 + 8 * sc (blT T) N p + 1 else if c < 60 then 0 else 1 + 8 * sc (blT T) N p + 3)) ∨
  (sc (dgT T) N (sc (blT T) N p) = sc (blT T) N p ∧ ∃ x, fw T (sc (ltT T) N (sc (blT T) N p)) (sc (blT T) N p) wds 0 x ∧ ((x = -1 ∧ r = 1 + 8 * sc (blT T) N p + 0) ∨ ((0 ≤ x ∧ x ≤ 8) ∧ e = (1, x) ∧ p' = sc (ltT T) N (sc (blT T) N p) ∧ r = (if c < 60 then 0 else 1 + 8 * sc (blT T) N p + 3))))
/-- the sign between two values -/
def btw (x : Int) : Int := if x = 42 then 2 else if x = 47 then 3 else if x = 37 then 4 else if x = 43 then 5 else if x = 45 then 6 else -1
def opE (a : Int) : List (Int × Int) := if a = -1 then [] else [(a, 0)]
def smC (T : Int → Int) (N : Int) : Nat → Int → Int → Int → Int → Int → Int → Int → List (Int × Int) → Prop
  | 0, _, _, _, _, _, _, _, _ => False
  | f + 1, a1, a2, p, c, r, p', c', E => ∃ rv pv e, vlC T N p c rv pv e ∧ ((¬ rv = 0 ∧ r = rv) ∨ (rv = 0 ∧
      (((btw (pk T N (sc (blT T) N pv)) = 2 ∨ btw (pk T N (sc (blT T) N pv)) = 3 ∨ btw (pk T N (sc (blT T) N pv)) = 4) ∧ ∃ E2, smC T N f (btw (pk T N (sc (blT T) N pv))) a2 (sc (blT T) N pv + 1) (c + 1) r p' c' E2 ∧ E = (e :: opE a1) ++ E2) ∨
       ((btw (pk T N (sc (blT T) N pv)) = 5 ∨ btw (pk T N (sc (blT T) N pv)) = 6) ∧ ∃ E2, smC T N f (-1) (btw (pk T N (sc (blT T) N pv))) (sc (blT T) N pv + 1) (c + 1) r p' c' E2 ∧ E = ((e :: opE a1) ++ opE a2) ++ E2) ∨
       (btw (pk T N (sc (blT T) N pv)) = -1 ∧ r = 0 ∧ p' = sc (blT T) N pv ∧ c' = c + 1 ∧ E = (e :: opE a1) ++ opE a2))))
theorem sc_sc {P : Int → Bool} {N p : Int} (h : p ≤ N) : sc P N (sc P N p) = sc P N p := by
  have hb := sc_bd (P := P) h
  refine sc_0 (fun z => sc_end h z.1 z.2)
theorem btw_pk {T : Int → Int} {N p : Int} (h : ¬ btw (pk T N p) = -1) : p < N := Decidable.byContradiction fun z => h (by unfold pk; rw [if_neg z]; decide)
/-! what is entered -/
def wrE (f : Int → Int) (n : Int) : List (Int × Int) → Int → Int
  | [] => f
  | e :: l => wrE (uA f n (e.1 + 16 * e.2)) (n + 1) l
theorem wrE_app {f : Int → Int} {n : Int} : ∀ {l l' : List (Int × Int)} , wrE f n (l ++ l') = wrE (wrE f n l) (n + (l.length : Int)) l'
  | [], l' => by
    show wrE f n l' = wrE f (n + ((0 : Nat) : Int)) l'
    rw [show n + ((0 : Nat) : Int) = n by omega]
  | e :: l, l' => by
    show wrE (uA f n (e.1 + 16 * e.2)) (n + 1) (l ++ l') = wrE (wrE (uA f n (e.1 + 16 * e.2)) (n + 1) l) (n + ((l.length + 1 : Nat) : Int)) l'
    rw [wrE_app, show n + 1 + (l.length : Int) = n + ((l.length + 1 : Nat) : Int) by omega]
/-- the draft behind some entries -/
def CE (s t : Mem) (E : List (Int × Int)) : Prop := t 23 0 = wrE (s 23 0) (s 23 1 0) E ∧ t 23 1 0 = s 23 1 0 + (E.length : Int) ∧ (∀ i, ¬ i = s 23 6 0 - 1 → t 23 5 i = s 23 5 i) ∧ t 23 5 (s 23 6 0 - 1) = t 23 1 0 ∧ t 23 2 = s 23 2 ∧ t 23 3 = s 23 3 ∧ t 23 4 = s 23 4 ∧ t 23 6 = s 23 6
/-- the class's reader -/
def CS (s : Mem) (T : Int → Int) (N p c n q : Int) : Prop := CXx s T N p ∧ s 22 1 0 = c ∧ s 23 1 0 = n ∧ s 23 6 0 = q ∧ s 23 5 (q - 1) = n
def FR (s t : Mem) : Prop := FrO (fun o => o = 1 ∨ o = 22 ∨ o = 23) s t
/-- what waits stays -/
def FWt (s t : Mem) : Prop := ∀ j, 3 ≤ j → j ≤ 6 → t 22 j = s 22 j
def FV (s t : Mem) : Prop := ∀ j, 2 ≤ j → j ≤ 6 → t 22 j = s 22 j
theorem CE.rf {s : Mem} (h : s 23 5 (s 23 6 0 - 1) = s 23 1 0) : CE s s [] := ⟨rfl, by show _ = _ + ((0 : Nat) : Int); omega, fun _ _ => rfl, h, rfl, rfl, rfl, rfl⟩
theorem CE.tr {s t u : Mem} {E F : List (Int × Int)} (h : CE s t E) (h2 : CE t u F) : CE s u (E ++ F) := by
  obtain ⟨a1, a2, a3, a4, a5, a6, a7, a8⟩ := h
  obtain ⟨b1, b2, b3, b4, b5, b6, b7, b8⟩ := h2
  rw [a8] at b3 b4
  refine ⟨by rw [b1, a1, a2, wrE_app], ?_, fun i hi => by rw [b3 i hi, a3 i hi], b4, by rw [b5, a5], by rw [b6, a6], by rw [b7, a7], by rw [b8, a8]⟩
  rw [b2, a2, List.length_append]
  omega
theorem CE.eq {s t : Mem} (h : s 23 5 (s 23 6 0 - 1) = s 23 1 0) (e : t 23 = s 23) : CE s t [] := by
  unfold CE
  rw [e]
  exact CE.rf h
theorem CS.ce {s t : Mem} {T : Int → Int} {N p c n q p' c' : Int} {E : List (Int × Int)} (h : CS s T N p c n q) (hE : CE s t E) (hC : CXx t T N p') (hc : t 22 1 0 = c') : CS t T N p' c' (n + (E.length : Int)) q := by
  obtain ⟨_, _, h3, h4, _⟩ := h
  obtain ⟨_, a2, _, a4, _, _, _, a8⟩ := hE
  rw [h4] at a4
  refine ⟨hC, hc, by rw [a2, h3], by rw [a8, h4], by rw [a4, a2, h3]⟩
theorem CS.own {s : Mem} {T : Int → Int} {N p c n q : Int} (h : CS s T N p c n q) : s 23 5 (s 23 6 0 - 1) = s 23 1 0 := by rw [h.2.2.2.1, h.2.2.1]; exact h.2.2.2.2
theorem p_ru_append {k y : Int} {s : Mem} {T : Int → Int} {N p c n q : Int} {Q : Mem → Prop} (hS : CS s T N p c n q) (hn : 0 ≤ n ∧ n < 400) (hq : 1 ≤ q ∧ q ≤ 12) (h : ∀ t, FrJ 23 (fun j => j = 0 ∨ j = 1 ∨ j = 5) s t → CE s t [(k, y)] → CS t T N p c (n + 1) q → Q t) : W_ru_append 23 k y s Q := by
  obtain ⟨h1, h2, h3, h4, h5⟩ := id hS
  refine w_ru_append (b_ru_append_0 rfl ?_)
  unfold T_ru_append_0 T_ru_append_37 T_ru_append_59
  rw [h3, wr_id (x := n) (by omega) (by omega)]
  refine ⟨fun z => by omega, fun _ => ⟨by omega, fun s2 x2 s3 x3 => ?_⟩⟩
  obtain ⟨a1, a2, a3⟩ := updM_f x2
  obtain ⟨b1, b2, b3⟩ := updM_f x3
  have e1 : s3 23 1 0 = n + 1 := by rw [b3, uA_s, a2 1 (by omega), h3]
  rw [b2 6 (by omega), a2 6 (by omega), h4, e1, wr_id (x := q) (by omega) (by omega), wr_id (x := q - 1) (by omega) (by omega)]
  refine ⟨fun z => by omega, fun _ => ⟨by omega, fun s4 x4 => ?_⟩⟩
  obtain ⟨c1, c2, c3⟩ := updM_f x4
  have hF : FrJ 23 (fun j => j = 0 ∨ j = 1 ∨ j = 5) s s4 := ⟨fun o z => by rw [c1 o z, b1 o z, a1 o z], fun j z => by rw [c2 j (by omega), b2 j (by omega), a2 j (by omega)]⟩
  have hE : CE s s4 [(k, y)] := by
    refine ⟨?_, ?_, fun i hi => ?_, ?_, hF.2 2 (by omega), hF.2 3 (by omega), hF.2 4 (by omega), hF.2 6 (by omega)⟩
    · rw [c2 0 (by omega), b2 0 (by omega), a3, h3]
      rfl
    · rw [c2 1 (by omega), e1, h3]
      rfl
    · rw [h4] at hi
      rw [c3, uA_n _ hi, b2 5 (by omega), a2 5 (by omega)]
    · rw [h4, c3, uA_s, c2 1 (by omega), e1]
  refine h s4 hF hE ?_
  have := hS.ce hE (p' := p) (c' := c) ⟨by rw [hF.1 1 (by omega)]; exact h1.1, by rw [hF.1 1 (by omega)]; exact h1.2.1, by rw [hF.1 1 (by omega)]; exact h1.2.2⟩ (by rw [hF.1 22 (by omega)]; exact h2)
  exact this
theorem vlC_ok {T : Int → Int} {N p c p' : Int} {e : Int × Int} (hp : 0 ≤ p ∧ p ≤ N) (h : vlC T N p c 0 p' e) : c < 60 ∧ (0 ≤ p' ∧ p' ≤ N) ∧ (e.1 = 0 ∨ e.1 = 1) ∧ (0 ≤ e.2 ∧ e.2 ≤ 99999) ∧ (e.1 = 1 → e.2 < 9) := by
  have hb := sc_bd (P := blT T) hp.2
  have hd := sc_bd (P := dgT T) hb.2
  have hl := sc_bd (P := ltT T) hb.2
  have hn := nuV_bd (T := T) (N := N) (a := sc (blT T) N p)
  rcases h with ⟨_, h2, h3, h4⟩ | ⟨_, x, _, ⟨_, h4⟩ | ⟨h5, h2, h3, h4⟩⟩
  · have : c < 60 := by
      refine Decidable.byContradiction fun z => ?_
      split at h4
      · omega
      · omega
    subst h2
    exact ⟨this, by omega, Or.inl rfl, hn, fun z => absurd z (by show ¬ (0 : Int) = 1; decide)⟩
  · omega
  · have : c < 60 := by
      refine Decidable.byContradiction fun z => ?_
      rw [if_neg z] at h4; omega
    subst h2
    exact ⟨this, by omega, Or.inr rfl, ⟨h5.1, by show x ≤ 99999; omega⟩, fun _ => by show x < 9; omega⟩
theorem wds_ok : cvL.getD 17 [] = joinW wds ∧ (∀ w, w ∈ wds → ∀ c, c ∈ w → ¬ c = 32) := by decide
theorem p_rr_readValue {s : Mem} {T : Int → Int} {N p c n q : Int} {Q : Int → Mem → Prop} (hT : TX T N) (hS : CS s T N p c n q) (hp : 0 ≤ p ∧ p ≤ N) (hn : 0 ≤ n ∧ n < 400) (hq : 1 ≤ q ∧ q ≤ 12) (hc : 0 ≤ c ∧ c ≤ 60)
    (h : ∀ t r p' e, FR s t → FV s t → (0 ≤ r ∧ r ≤ 5000) → vlC T N p c r p' e → (r = 0 → CE s t [e] ∧ CS t T N p' (c + 1) (n + 1) q) → CXx t T N (t 1 2 0) → Q r t) : W_rr_readValue s Q := by
  obtain ⟨h1, h2, h3, h4, h5⟩ := id hS
  have hN := hT.1
  have hb := sc_bd (P := blT T) hp.2
  refine w_rr_readValue (b_rr_readValue_0 (p_tx_next hT h1 hp (fun t1 F1 C1 => ?_)))
  have hd := sc_bd (P := dgT T) hb.2
  have hl := sc_bd (P := ltT T) hb.2
  unfold vlC at h
  generalize sc (blT T) N p = b at hb hd hl C1 h ⊢
  have hnv := nuV_bd (T := T) (N := N) (a := b)
  have fl : ∀ (t : Mem) (k y : Int), CXx t T N (t 1 2 0) → FrJ 1 (fun j => j = 2) s t → True := fun _ _ _ _ _ => trivial
  have own : ∀ {t : Mem} {p2 : Int}, CXx t T N p2 → CXx t T N (t 1 2 0) := fun z => ⟨z.1, z.2.1, rfl⟩
  -- the count, then the entry
  have kept : ∀ (t : Mem) (k y p2 : Int), FrJ 1 (fun j => j = 2) s t → CXx t T N p2 → (0 ≤ y ∧ y ≤ 99999) → (∀ r, r = (if c < 60 then 0 else 1 + 8 * b + 3) → ∀ t', FR s t' → FV s t' → (r = 0 → CE s t' [(k, y)] ∧ CS t' T N p2 (c + 1) (n + 1) q) → CXx t' T N (t' 1 2 0) → Q r t') → T_rr_readValue_54 Q b k y t := fun t k y p2 F C hy hk => by
    unfold T_rr_readValue_54 T_rr_readValue_69
    have e22 : t 22 = s 22 := F.1 22 (by omega)
    rw [e22, h2, wr_id (x := c) (by omega) (by omega)]
    refine ⟨fun z s1 x1 => ?_, fun z => p_tx_fault ?_⟩
    · obtain ⟨a1, a2, a3⟩ := updM_f x1
      have S1 : CS s1 T N p2 (c + 1) n q := ⟨⟨by rw [a1 1 (by omega)]; exact C.1, by rw [a1 1 (by omega)]; exact C.2.1, by rw [a1 1 (by omega)]; exact C.2.2⟩, by rw [a3, uA_s], by rw [a1 23 (by omega), F.1 23 (by omega)]; exact h3, by rw [a1 23 (by omega), F.1 23 (by omega)]; exact h4, by rw [a1 23 (by omega), F.1 23 (by omega)]; exact h5⟩
      refine p_ru_append S1 hn hq (fun t2 G2 E2 S2 => ?_)
      have e23 : s1 23 = s 23 := by rw [a1 23 (by omega), F.1 23 (by omega)]
      refine hk 0 (by rw [if_pos z]) t2 (fun o ho => by rw [G2.1 o (by omega), a1 o (by omega), F.1 o (by omega)]) (fun j j0 j1 => by rw [G2.1 22 (by omega), a2 j (by omega), e22]) (fun _ => ⟨?_, S2⟩) (own S2.1)
      unfold CE at E2 ⊢
      rw [e23] at E2
      exact E2
    · exact hk _ (by rw [if_neg z]) t (fun o ho => F.1 o (by omega)) (fun j _ _ => by rw [e22]) (fun z2 => by omega) (own C)
  refine p_tx_readNumber hT C1 (by omega) (fun t2 F2 C2 => ?_)
  have F12 := F1.tr F2
  unfold T_rr_readValue_29 T_rr_readValue_41
  unfold nuR
  by_cases c1 : sc (dgT T) N b = b
  · rw [if_pos c1]
    refine ⟨fun z => absurd (by decide) z, fun _ => ?_⟩
    rw [c1] at C2
    refine p_tx_readWord (ws := wds) rfl wds_ok.1 wds_ok.2 (by intro z; cases z) (by decide) hT C2 (by omega) (fun t3 x F3 C3 hx => ?_)
    have hxb := fw_bd (by omega) hx
    have hxb : x = -1 ∨ (0 ≤ x ∧ x ≤ 8) := hxb.elim Or.inl (fun z => Or.inr (by have : wds.length = 9 := rfl; omega))
    have F13 := F12.tr F3
    rw [wr_id (x := x) (by omega) (by omega)]
    refine ⟨fun z => ?_, fun z => p_tx_fault ?_⟩
    · have hx9 := hxb.resolve_left z
      refine br_t (by omega) (kept t3 1 x _ F13 C3 (by omega) (fun r er t' f1 f2 f3 f4 => h t' r _ (1, x) f1 f2 ?_ (Or.inr ⟨c1, x, hx, Or.inr ⟨hx9, rfl, rfl, er⟩⟩) f3 f4))
      split at er <;> omega
    · have hx1 := Decidable.byContradiction z
      exact h t3 _ 0 (0, 0) (fun o ho => F13.1 o (by omega)) (fun j _ _ => by rw [F13.1 22 (by omega)]) (by omega) (Or.inr ⟨c1, x, hx, Or.inl ⟨hx1, rfl⟩⟩) (fun z => by omega) (own C3)
  · rw [if_neg c1]
    by_cases c2 : 5 < sc (dgT T) N b - b
    · rw [if_pos c2]
      refine br_t (by decide) (br_t (by decide) (br_f (by decide) (p_tx_fault ?_)))
      exact h t2 _ (sc (dgT T) N b) (0, nuV T N b) (fun o ho => F12.1 o (by omega)) (fun j _ _ => by rw [F12.1 22 (by omega)]) (by omega) (Or.inl ⟨c1, rfl, rfl, by rw [if_pos c2]⟩) (fun z => by omega) (own C2)
    · rw [if_neg c2, wr_id (x := nuV T N b) (by omega) (by omega)]
      refine br_t (by omega) (br_t (by omega) (br_t (by omega) (kept t2 0 (nuV T N b) _ F12 C2 (by omega) (fun r er t' f1 f2 f3 f4 => h t' r _ (0, nuV T N b) f1 f2 ?_ (Or.inl ⟨c1, rfl, rfl, by rw [if_neg c2]; exact er⟩) f3 f4))))
      split at er <;> omega
