/-! ===== RULE: the reference reads values and SUMS ===== -/
def wrF (g : Int × Int → Int) (f : Int → Int) (n : Int) : List (Int × Int) → Int → Int
  | [] => f
  | e :: l => wrF g (uA f n (g e)) (n + 1) l
theorem wrF_app {g : Int × Int → Int} {f : Int → Int} {n : Int} : ∀ {l l' : List (Int × Int)}, wrF g f n (l ++ l') = wrF g (wrF g f n l) (n + (l.length : Int)) l'
  | [], l' => by
    show wrF g f n l' = wrF g f (n + ((0 : Nat) : Int)) l'
    rw [show n + ((0 : Nat) : Int) = n by omega]
  | e :: l, l' => by
    show wrF g (uA f n (g e)) (n + 1) (l ++ l') = wrF g (wrF g (uA f n (g e)) (n + 1) l) (n + ((l.length + 1 : Nat) : Int)) l'
    rw [wrF_app, show n + 1 + (l.length : Int) = n + ((l.length + 1 : Nat) : Int) by omega]
theorem wrF_lt {g : Int × Int → Int} : ∀ {l : List (Int × Int)} {f : Int → Int} {n k : Int}, k < n → wrF g f n l k = f k
  | [], _, _, _, _ => rfl
  | e :: l, f, n, k, h => by
    show wrF g (uA f n (g e)) (n + 1) l k = f k
    rw [wrF_lt (l := l) (by omega), uA_n _ (by omega)]
def kpE (e : Int × Int) : Int := kap e.1
def vE (e : Int × Int) : Int := e.2
def RE (v m : Mem) (x : Int) (E : List (Int × Int)) : Prop := m 34 44 = wrF kpE (v 34 44) x E ∧ m 34 45 = wrF vE (v 34 45) x E
def Low (v m : Mem) (x : Int) : Prop := ∀ k, k < x → m 34 44 k = v 34 44 k ∧ m 34 45 k = v 34 45 k
theorem RE.low {v m : Mem} {x : Int} {E : List (Int × Int)} (h : RE v m x E) : Low v m x := fun k hk => ⟨by rw [h.1, wrF_lt hk], by rw [h.2, wrF_lt hk]⟩
theorem RE.tr {v m u : Mem} {x : Int} {E F : List (Int × Int)} (h : RE v m x E) (h2 : RE m u (x + (E.length : Int)) F) : RE v u x (E ++ F) := ⟨by rw [h2.1, h.1, wrF_app], by rw [h2.2, h.2, wrF_app]⟩
theorem RE.eq {v m : Mem} {x : Int} (h : m 34 44 = v 34 44) (h2 : m 34 45 = v 34 45) : RE v m x [] := ⟨h, h2⟩
theorem Low.tr {v m u : Mem} {x y : Int} (h : Low v m x) (h2 : Low m u y) (hxy : x ≤ y) : Low v u x := fun k hk => ⟨(h2 k (by omega)).1.trans (h k hk).1, (h2 k (by omega)).2.trans (h k hk).2⟩
theorem Low.eq {v m : Mem} {x : Int} (h : m 34 44 = v 34 44) (h2 : m 34 45 = v 34 45) : Low v m x := fun k _ => ⟨by rw [h], by rw [h2]⟩
def rvJ (j : Nat) : Prop := j = 33 ∨ j = 34 ∨ j = 37 ∨ j = 39 ∨ j = 44 ∨ j = 45
/-- the reference's reader: its place, what it counts, what it entered, its rule -/
def RZ (v : Mem) (T : Int → Int) (N p c n ρ : Int) : Prop := RX v T N p ∧ v 34 39 0 = c ∧ v 34 37 0 = n ∧ v 34 35 0 = ρ ∧ v 34 41 0 = 9
theorem RZ.st {v m : Mem} {T : Int → Int} {N p q c n ρ : Int} {S : Nat → Prop} (h : RZ v T N p c n ρ) (hF : FrJ 34 S v m) (h1 : ¬ S 32) (h2 : ¬ S 43) (h3 : ¬ S 39) (h4 : ¬ S 37) (h5 : ¬ S 35) (h6 : ¬ S 41) (e : m 34 33 0 = q) : RZ m T N q c n ρ := by
  obtain ⟨a1, a2, a3, a4, a5⟩ := h
  exact ⟨a1.st hF h1 h2 e, by rw [hF.2 39 h3]; exact a2, by rw [hF.2 37 h4]; exact a3, by rw [hF.2 35 h5]; exact a4, by rw [hF.2 41 h6]; exact a5⟩
theorem p_md_entered {κ k y f : Int} {v : Mem} {T : Int → Int} {N p c n ρ : Int} {Q : Mem → Prop} (hZ : RZ v T N p c n ρ) (hf : v 34 34 0 = f) (hb : 0 ≤ f ∧ f ≤ 100000) (hk : κ = kap k) (hn : f = 0 → (0 ≤ n ∧ n < 300) ∧ (0 ≤ ρ ∧ ρ < 6))
    (h : ∀ m, FrJ 34 (fun j => j = 37 ∨ j = 44 ∨ j = 45) v m → m 34 34 0 = f → RX m T N p → Low v m (300 * ρ + n) → (¬ f = 0 → m = v) → (f = 0 → RZ m T N p c (n + 1) ρ ∧ RE v m (300 * ρ + n) [(k, y)]) → Q m) : W_md_entered κ y v Q := by
  obtain ⟨a1, a2, a3, a4, a5⟩ := id hZ
  refine w_md_entered (b_md_entered_0 ?_)
  unfold T_md_entered_0 T_md_entered_55
  rw [hf, wr_id (x := f) (by omega) (by omega)]
  refine ⟨fun z => h v FrJ.rf hf a1 (fun k _ => ⟨rfl, rfl⟩) (fun _ => rfl) (fun w => absurd w z), fun z => ?_⟩
  have z := Decidable.byContradiction z
  obtain ⟨n1, r1⟩ := hn z
  rw [a3, a4, wr_id (x := 300 * ρ + n) (by omega) (by omega)]
  refine ⟨by omega, fun s2 x2 => ?_⟩
  obtain ⟨b1, b2, b3⟩ := updM_f x2
  rw [b2 35 (by omega), b2 37 (by omega), a3, a4, wr_id (x := 300 * ρ + n) (by omega) (by omega)]
  refine ⟨by omega, fun s3 x3 s4 x4 => ?_⟩
  obtain ⟨c1, c2, c3⟩ := updM_f x3
  obtain ⟨d1, d2, d3⟩ := updM_f x4
  have hF : FrJ 34 (fun j => j = 37 ∨ j = 44 ∨ j = 45) v s4 := ⟨fun o q => by rw [d1 o q, c1 o q, b1 o q], fun j q => by rw [d2 j (by omega), c2 j (by omega), b2 j (by omega)]⟩
  have e33 : s4 34 33 0 = p := by rw [hF.2 33 (by omega)]; exact a1.2.1
  have hE : RE v s4 (300 * ρ + n) [(k, y)] := by
    refine ⟨?_, ?_⟩
    · rw [d2 44 (by omega), c2 44 (by omega), b3, hk]; rfl
    · rw [d2 45 (by omega), c3, b2 45 (by omega)]; rfl
  refine h s4 hF (by rw [hF.2 34 (by omega)]; exact hf) (a1.st hF (by omega) (by omega) e33) hE.low (fun w => absurd z w) (fun _ => ⟨⟨a1.st hF (by omega) (by omega) e33, by rw [hF.2 39 (by omega)]; exact a2, ?_, by rw [hF.2 35 (by omega)]; exact a4, by rw [hF.2 41 (by omega)]; exact a5⟩, hE⟩)
  rw [d3, uA_s, c2 37 (by omega), b2 37 (by omega), a3]
theorem p_md_isCounted {b f : Int} {v : Mem} {Q : Mem → Prop} (hf : v 34 34 0 = f) (hb : 0 ≤ f ∧ f ≤ 100000)
    (h : ∀ m, FrJ 34 (fun j => j = 34 ∨ j = 39) v m → m 34 39 0 = v 34 39 0 + 1 → m 34 34 0 = (if wr (v 34 39 0) = 60 then flt f 3 b else f) → Q m) : W_md_isCounted b v Q := by
  refine w_md_isCounted (b_md_isCounted_0 ?_)
  unfold T_md_isCounted_0 T_md_isCounted_15
  refine ⟨fun z s1 x1 => ?_, fun z => p_md_fails hf hb (fun m F e s1 x1 => ?_)⟩
  · obtain ⟨a1, a2, a3⟩ := updM_f x1
    rw [if_neg z] at h
    exact h s1 ⟨a1, fun j q => a2 j (by omega)⟩ (by rw [a3, uA_s]) (by rw [a2 34 (by omega)]; exact hf)
  · obtain ⟨a1, a2, a3⟩ := updM_f x1
    rw [if_pos (Decidable.byContradiction z)] at h
    exact h s1 ⟨fun o q => by rw [a1 o q, F.1 o q], fun j q => by rw [a2 j (by omega), F.2 j (by omega)]⟩ (by rw [a3, uA_s, F.2 39 (by omega)]) (by rw [a2 34 (by omega)]; exact e)
theorem flt_n {f c p : Int} (h : ¬ f = 0) : flt f c p = f := if_neg h
theorem flt_0 {c p : Int} : flt 0 c p = 1 + 8 * p + c := if_pos rfl
theorem fw_fun {T : Int → Int} {e m : Int} : ∀ {ws : List (List Int)} {n x y : Int}, fw T e m ws n x → fw T e m ws n y → x = y
  | [], _, x, y, h, h2 => by
    have h : x = -1 := h
    have h2 : y = -1 := h2
    rw [h, h2]
  | w :: ws, n, x, y, h, h2 => by
    rcases h with ⟨h, h'⟩ | ⟨h, h'⟩
    · rcases h2 with ⟨_, g⟩ | ⟨g, _⟩
      · rw [h', g]
      · exact absurd h g
    · rcases h2 with ⟨g, _⟩ | ⟨_, g⟩
      · exact absurd g h
      · exact fw_fun h' g
def wkO (a : Int) : Nat := if a = 7 then 22 else if a = 8 then 54 else 40 + 2 * a.toNat
theorem p_md_wordOf {a : Int} {v : Mem} {Q : Nat → Mem → Prop} (ha : 0 ≤ a ∧ a ≤ 8) (h : Q (wkO a) v) : W_md_wordOf a v Q := by
  refine w_md_wordOf (b_md_wordOf_0 ?_)
  unfold T_md_wordOf_0 T_md_wordOf_48 T_md_wordOf_51 T_md_wordOf_54 T_md_wordOf_57 T_md_wordOf_60 T_md_wordOf_63 T_md_wordOf_66 T_md_wordOf_69 T_md_wordOf_72
  rw [wr_id (x := a) (by omega) (by omega)]
  refine ⟨⟨fun q => ?_, fun q => ?_, fun q => ?_, fun q => ?_, fun q => ?_, fun q => ?_, fun q => ?_, fun q => ?_, trivial⟩, fun q => ?_⟩
  · subst q; exact h
  · subst q; exact h
  · subst q; exact h
  · subst q; exact h
  · subst q; exact h
  · subst q; exact h
  · subst q; exact h
  · subst q; exact h
  · have e : a = 8 := by omega
    subst e; exact h
theorem wkO_ok : ∀ i : Nat, i < 9 → ckind (wkO (i : Int)) = 20 ∧ clen (wkO (i : Int) + 1) < 1000 ∧ wds.drop i = cvL.getD (wkO (i : Int) + 1) [] :: wds.drop (i + 1) := by decide +kernel
/-- a value, whether there was a fault before or not -/
theorem p_md_value {f : Int} {v : Mem} {T : Int → Int} {N p c n ρ : Int} {Q : Mem → Prop} (hT : TX T N) (hZ : RZ v T N p c n ρ) (hp : 0 ≤ p ∧ p ≤ N) (hf : v 34 34 0 = f) (hb : 0 ≤ f ∧ f ≤ 100000) (hn : f = 0 → (0 ≤ n ∧ n < 300) ∧ (0 ≤ ρ ∧ ρ < 6) ∧ (0 ≤ c ∧ c ≤ 60))
    (h : ∀ m p', FrJ 34 rvJ v m → (0 ≤ p' ∧ p' ≤ N) → RX m T N p' → (0 ≤ m 34 34 0 ∧ m 34 34 0 ≤ 100000) → Low v m (300 * ρ + n) → (¬ f = 0 → m 34 34 0 = f ∧ m 34 44 = v 34 44 ∧ m 34 45 = v 34 45) → (f = 0 → ∀ r pv e, vlC T N p c r pv e → m 34 34 0 = r ∧ (r = 0 → p' = pv ∧ RZ m T N pv (c + 1) (n + 1) ρ ∧ RE v m (300 * ρ + n) [e])) → Q m) : W_md_value v Q := by
  have hN := hT.1
  have hnb := sc_bd (P := blT T) hp.2
  refine w_md_value (b_md_value_0 (p_md_blanks hT hZ.1 ⟨hp.1, by omega⟩ (fun m1 F1 C1 => ?_)))
  unfold vlC at h
  generalize sc (blT T) N p = b at hnb C1 h
  have hde := sc_bd (P := dgT T) hnb.2
  have hle := sc_bd (P := ltT T) hnb.2
  have hnv := nuV_bd (T := T) (N := N) (a := b)
  have Z1 : RZ m1 T N b c n ρ := hZ.st F1 (by omega) (by omega) (by omega) (by omega) (by omega) (by omega) C1.2.1
  have f1 : m1 34 34 0 = f := by rw [F1.2 34 (by omega)]; exact hf
  have R1 : FrJ 34 rvJ v m1 := F1.mono (fun j z => Or.inl z)
  have l1 : ∀ x, Low v m1 x := fun x => Low.eq (F1.2 44 (by omega)) (F1.2 45 (by omega))
  rw [C1.2.1]
  -- count and enter, once the value is known
  have count : ∀ (u : Mem) (g k y p' : Int) (κ : Int), FrJ 34 (fun j => j = 33 ∨ j = 34) m1 u → (0 ≤ p' ∧ p' ≤ N) → u 34 34 0 = g → (0 ≤ g ∧ g ≤ 100000) → (¬ f = 0 → g = f) → κ = kap k →
      (f = 0 → ∀ g', g' = (if g = 0 then (if c < 60 then 0 else 1 + 8 * b + 3) else g) → ∀ r pv e, ((¬ sc (dgT T) N b = b ∧ e = (0, nuV T N b) ∧ pv = sc (dgT T) N b ∧ r = (if 5 < sc (dgT T) N b - b then 1 + 8 * b + 1 else if c < 60 then 0 else 1 + 8 * b + 3)) ∨ (sc (dgT T) N b = b ∧ ∃ x, fw T (sc (ltT T) N b) b wds 0 x ∧ ((x = -1 ∧ r = 1 + 8 * b + 0) ∨ ((0 ≤ x ∧ x ≤ 8) ∧ e = (1, x) ∧ pv = sc (ltT T) N b ∧ r = (if c < 60 then 0 else 1 + 8 * b + 3))))) → g' = r ∧ (r = 0 → g = 0 ∧ p' = pv ∧ e = (k, y))) →
      ∀ m0, FrJ 34 (fun j => j = 34 ∨ j = 39) u m0 → m0 34 39 0 = u 34 39 0 + 1 → m0 34 34 0 = (if wr (u 34 39 0) = 60 then flt g 3 b else g) → ∀ m2, FrJ 34 (fun j => j = 33) m0 m2 → RX m2 T N p' → W_md_entered κ y m2 Q := fun u g k y p' κ Fu hp' eg gb gf ek hg m0 F0 e39 e34 m2 F02 C2 => by
    rw [← F02.2 39 (by omega)] at e39
    rw [← F02.2 34 (by omega)] at e34
    have F2 : FrJ 34 (fun j => j = 33 ∨ j = 34 ∨ j = 39) u m2 := (F0.mono (fun j z => Or.inr z)).tr (F02.mono (fun j z => Or.inl z))
    have F12 : FrJ 34 rvJ v m2 := R1.tr ((Fu.mono (fun j z => by unfold rvJ; omega)).tr (F2.mono (fun j z => by unfold rvJ; omega)))
    have u39 : u 34 39 0 = c := by rw [Fu.2 39 (by omega)]; exact Z1.2.1
    have l2 : ∀ x, Low v m2 x := fun x => (l1 x).tr (Low.eq (by rw [F2.2 44 (by omega), Fu.2 44 (by omega)]) (by rw [F2.2 45 (by omega), Fu.2 45 (by omega)])) (Int.le_refl x)
    have Z2 : RZ m2 T N p' (c + 1) n ρ := ⟨C2, by rw [e39, u39], by rw [F2.2 37 (by omega), Fu.2 37 (by omega)]; exact Z1.2.2.1, by rw [F2.2 35 (by omega), Fu.2 35 (by omega)]; exact Z1.2.2.2.1, by rw [F2.2 41 (by omega), Fu.2 41 (by omega)]; exact Z1.2.2.2.2⟩
    have b34 : 0 ≤ m2 34 34 0 ∧ m2 34 34 0 ≤ 100000 := by
      rw [e34]
      unfold flt
      split
      · split <;> omega
      · omega
    have bad : ¬ f = 0 → m2 34 34 0 = f := fun z => by
      have := gf z
      subst this
      rw [e34]
      split
      · exact flt_n z
      · rfl
    have good : f = 0 → m2 34 34 0 = (if g = 0 then (if c < 60 then 0 else 1 + 8 * b + 3) else g) := fun z => by
      have hc := (hn z).2.2
      rw [e34, u39, wr_id (x := c) (by omega) (by omega)]
      by_cases q : c = 60
      · rw [if_pos q]
        by_cases g0 : g = 0
        · subst g0
          rw [flt_0, if_pos rfl, if_neg (by omega)]
        · rw [flt_n g0, if_neg g0]
      · rw [if_neg q]
        by_cases g0 : g = 0
        · rw [if_pos g0, if_pos (by omega), g0]
        · rw [if_neg g0]
    refine p_md_entered Z2 rfl b34 ek (fun z => ?_) (fun m3 F3 e3 C3 L3 d3 h3 => ?_)
    · by_cases f0 : f = 0
      · exact ⟨(hn f0).1, (hn f0).2.1⟩
      · exact absurd ((bad f0).symm.trans z) f0
    · have F13 : FrJ 34 rvJ v m3 := F12.tr (F3.mono (fun j z => by unfold rvJ; omega))
      refine h m3 p' F13 hp' C3 (by rw [e3]; exact b34) ((l2 _).tr L3 (Int.le_refl _)) (fun z => ⟨by rw [e3]; exact bad z, by rw [d3 (by rw [bad z]; exact z), F2.2 44 (by omega), Fu.2 44 (by omega), F1.2 44 (by omega)], by rw [d3 (by rw [bad z]; exact z), F2.2 45 (by omega), Fu.2 45 (by omega), F1.2 45 (by omega)]⟩) (fun z r pv e hv => ?_)
      obtain ⟨q1, q2⟩ := hg z _ rfl r pv e hv
      have e2 := good z
      rw [q1] at e2
      refine ⟨by rw [e3, e2], fun r0 => ?_⟩
      obtain ⟨w1, w2, w3⟩ := q2 r0
      obtain ⟨y1, y2⟩ := h3 (by rw [e2, r0])
      refine ⟨w2, by rw [← w2]; exact y1, ?_⟩
      rw [w3]
      have y3 : RE v m2 (300 * ρ + n) [] := RE.eq (by rw [F2.2 44 (by omega), Fu.2 44 (by omega), F1.2 44 (by omega)]) (by rw [F2.2 45 (by omega), Fu.2 45 (by omega), F1.2 45 (by omega)])
      exact y3.tr (by rw [show 300 * ρ + n + ((([] : List (Int × Int)).length : Nat) : Int) = 300 * ρ + n from Int.add_zero _]; exact y2)
  have hdg : (b < N ∧ dgT T b = true) ↔ ¬ sc (dgT T) N b = b := ⟨fun z w => by
      rw [sc_1 z.1 z.2] at w
      have := sc_bd (P := dgT T) (N := N) (p := b + 1) (by omega)
      omega, fun z => Decidable.byContradiction fun w => z (sc_0 w)⟩
  refine p_md_isDigit hT C1 ⟨by omega, by omega⟩ (zt (fun c1 => ?_) (fun c1 => ?_))
  · have hne := hdg.mp c1
    refine p_md_digits hT C1 (by omega) f1 hb (fun u Fu Cu eu => ?_)
    rw [if_neg hne] at eu ⊢
    have gb : 0 ≤ u 34 34 0 ∧ u 34 34 0 ≤ 100000 := by
      rw [eu]
      unfold flt
      split
      · split <;> omega
      · omega
    refine p_md_isCounted rfl gb (fun m2 F2 e39 e34 => count u (u 34 34 0) 0 (nuV T N b) (sc (dgT T) N b) 0 Fu (by omega) rfl gb (fun z => ?_) rfl (fun z g' eg r pv e hv => ?_) m2 F2 e39 e34 m2 FrJ.rf (Cu.st F2 (by omega) (by omega) (by rw [F2.2 33 (by omega)]; exact Cu.2.1)))
    · rw [eu]
      split
      · exact flt_n z
      · rfl
    · subst z
      rcases hv with ⟨_, h2, h3, h4⟩ | ⟨h2, _⟩
      · rw [eu] at eg
        by_cases c5 : 5 < sc (dgT T) N b - b
        · rw [if_pos c5, flt_0, if_neg (by omega)] at eg
          rw [if_pos c5] at h4
          exact ⟨by omega, fun w => by omega⟩
        · rw [if_neg c5, if_pos rfl] at eg
          rw [if_neg c5] at h4
          exact ⟨by rw [eg, h4], fun _ => ⟨by rw [eu, if_neg c5], h3.symm, h2⟩⟩
      · exact absurd h2 hne
  · have heq : sc (dgT T) N b = b := Decidable.byContradiction fun w => c1 (hdg.mpr w)
    unfold T_md_value_36
    -- no word
    have none : fw T (sc (ltT T) N b) b wds 0 (-1) → W_md_fails 0 b m1 (fun s2 => Q s2) := fun hw => by
      refine p_md_fails f1 hb (fun u Fu eu => ?_)
      have Cu : RX u T N b := C1.st Fu (by omega) (by omega) (by rw [Fu.2 33 (by omega)]; exact C1.2.1)
      refine h u b (R1.tr (Fu.mono (fun j z => Or.inr (Or.inl z)))) (by omega) Cu (by rw [eu]; unfold flt; split <;> omega) ((l1 _).tr (Low.eq (Fu.2 44 (by omega)) (Fu.2 45 (by omega))) (Int.le_refl _)) (fun z => ⟨by rw [eu]; exact flt_n z, by rw [Fu.2 44 (by omega), F1.2 44 (by omega)], by rw [Fu.2 45 (by omega), F1.2 45 (by omega)]⟩) (fun z r pv e hv => ?_)
      subst z
      rw [flt_0] at eu
      rcases hv with ⟨h2, _⟩ | ⟨_, x, hx, ⟨h3, h4⟩ | ⟨h3, _⟩⟩
      · exact absurd heq h2
      · exact ⟨by omega, fun w => by omega⟩
      · have := fw_fun hw hx
        omega
    -- a word
    have some : ∀ i : Nat, i < 9 → wq T (sc (ltT T) N b) (cvL.getD (wkO (i : Int) + 1) []) b → fw T (sc (ltT T) N b) b wds 0 (i : Int) → T_md_value_78 Q b (i : Int) m1 := fun i hi hq hw => by
      obtain ⟨k1, k2, k3⟩ := wkO_ok i hi
      have hlen := wq_len hq
      unfold T_md_value_78
      refine p_md_isCounted f1 hb (fun m2 F2 e39 e34 => p_md_wordOf (by omega) (p_js_length k1 k2 ?_))
      intro s6 x6
      obtain ⟨a1, a2, a3⟩ := updM_f x6
      have e33 : s6 34 33 0 = sc (ltT T) N b := by
        rw [a3, uA_s, F2.2 33 (by omega), C1.2.1]
        exact hlen
      have F6 : FrJ 34 (fun j => j = 33) m2 s6 := ⟨a1, fun j z => a2 j z⟩
      have C6 : RX s6 T N (sc (ltT T) N b) := C1.st ((F2.mono (S' := fun j => j = 33 ∨ j = 34 ∨ j = 39) (fun j z => Or.inr z)).tr (F6.mono (fun j z => Or.inl z))) (by omega) (by omega) e33
      -- the place moves behind the count
      have Cm : RX m1 T N b := C1
      refine count m1 f 1 (i : Int) (sc (ltT T) N b) 1 FrJ.rf ⟨by omega, by omega⟩ f1 hb (fun _ => rfl) rfl (fun z g' eg r pv e hv => ?_) m2 F2 e39 e34 s6 F6 C6
      subst z
      rw [if_pos rfl] at eg
      rcases hv with ⟨h2, _⟩ | ⟨_, x, hx, ⟨h3, h4⟩ | ⟨h3, h4, h5, h6⟩⟩
      · exact absurd heq h2
      · have := fw_fun hw hx
        omega
      · have := fw_fun hw hx
        subst this
        exact ⟨by rw [eg, h6], fun _ => ⟨rfl, h5.symm, h4⟩⟩
    have loop : ∀ d i : Nat, 9 - i = d → i ≤ 9 → (∀ y, fw T (sc (ltT T) N b) b (wds.drop i) (i : Int) y → fw T (sc (ltT T) N b) b wds 0 y) → K_md_value_38 Q b (i : Int) m1 := by
      intro d
      induction d with
      | zero =>
        intro i hd hi hw
        have e : i = 9 := by omega
        subst e
        refine b_md_value_38 ?_
        unfold T_md_value_38 T_md_value_63
        rw [Z1.2.2.2.2]
        exact br_t (by decide) (br_f (by decide) (none (hw (-1) rfl)))
      | succ d ih =>
        intro i hd hi hw
        obtain ⟨k1, k2, k3⟩ := wkO_ok i (by omega)
        rw [k3] at hw
        refine b_md_value_38 ?_
        unfold T_md_value_38 T_md_value_63
        rw [Z1.2.2.2.2, wr_id (x := (i : Int)) (by omega) (by omega)]
        refine br_f (by show ¬ (9 : Int) ≤ i; omega) (p_md_wordOf (by omega) (p_md_stood k1 k2 hT C1 (by omega) (fun hq _ => ?_) (fun hq _ => ?_)))
        · refine br_t (by decide) ?_
          rw [Z1.2.2.2.2]
          exact br_t (by show ¬ (i : Int) = 9; omega) (some i (by omega) hq (hw _ (Or.inl ⟨hq, rfl⟩)))
        · refine br_f (by decide) ?_
          have := ih (i + 1) (by omega) (by omega) (fun y hy => hw y (Or.inr ⟨hq, by rw [show ((i + 1 : Nat) : Int) = (i : Int) + 1 by omega] at hy; exact hy⟩))
          rw [show ((i + 1 : Nat) : Int) = (i : Int) + 1 by omega] at this
          exact this
    exact loop 9 0 (by omega) (by omega) (fun y hy => hy)
