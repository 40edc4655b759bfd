/-! ===== what holds between two calls ===== -/
def kapL : List Int := [0, 1, 13, 14, 15, 2, 3, 4, 5, 6, 7, 8, 9, 10, 11]
def kap (k : Int) : Int := kapL.getD k.toNat 0
/-- the kinds of the values on the pile behind one step (true: 0 or 1) -/
def chk1 (k : Int) (t : List Bool) : Option (List Bool) :=
  if k = 0 ∨ k = 1 then (if t.length < 40 then some (false :: t) else none)
  else if k ≤ 6 then (match t with
    | false :: false :: r => some (false :: r)
    | _ => none)
  else if k ≤ 11 then (match t with
    | false :: false :: r => some (true :: r)
    | _ => none)
  else if k = 12 then (match t with
    | true :: r => some (true :: r)
    | _ => none)
  else (match t with
    | true :: true :: r => some (true :: r)
    | _ => none)
def chk : List Int → List Bool → Option (List Bool)
  | [], t => some t
  | k :: r, t => (chk1 k t).bind (chk r)
def kindsL (f : Int → Int) (a b : Int) : List Int := (List.range (b - a).toNat).map (fun i : Nat => f (a + (i : Int)) % 16)
def RR (R m : Nat → Int → Int) (r : Int) : Prop :=
  ((0 ≤ R 6 0 ∧ R 6 0 ≤ 12) ∧ m 46 r = R 6 0 ∧ 0 ≤ R 1 0 ∧ R 1 0 ≤ 299) ∧
  (∀ k, 0 ≤ k → k < R 1 0 → (0 ≤ R 0 k % 16 ∧ R 0 k % 16 ≤ 14) ∧ (0 ≤ R 0 k / 16 ∧ R 0 k / 16 ≤ 99999) ∧ (R 0 k % 16 = 1 → R 0 k / 16 < 9) ∧ m 44 (300 * r + k) = kap (R 0 k % 16) ∧ m 45 (300 * r + k) = R 0 k / 16) ∧
  ∀ c, 0 ≤ c → c < R 6 0 → ((R 2 c = 1 ∧ m 47 (12 * r + c) = 0) ∨ (R 2 c = 0 ∧ m 47 (12 * r + c) = 1)) ∧ (m 48 (12 * r + c) = R 3 c ∧ m 49 (12 * r + c) = R 4 c ∧ m 50 (12 * r + c) = R 5 c) ∧ (0 ≤ R 3 c ∧ R 3 c ≤ R 4 c ∧ R 4 c ≤ R 5 c ∧ R 5 c ≤ R 1 0) ∧ (R 2 c = 1 → chk (kindsL (R 0) (R 3 c) (R 4 c)) [] = some [false]) ∧ (R 4 c < R 5 c → chk (kindsL (R 0) (R 4 c) (R 5 c)) [] = some [true]) ∧ (R 2 c = 0 → R 4 c < R 5 c)
def Tap (s : Mem) : Prop := (0 ≤ s 1 1 0 ∧ s 1 1 0 ≤ 400) ∧ s 34 32 0 = s 1 1 0 ∧ ∀ i, 0 ≤ i → i < s 1 1 0 → (0 ≤ s 1 0 i ∧ s 1 0 i ≤ 255) ∧ s 34 43 i = (if s 1 0 i < 128 then s 1 0 i else s 1 0 i - 256)
def Sts (s : Mem) : Prop := ∀ i, 0 ≤ i → i < 3 → s 0 7 i = s 34 1 i
def Img (s : Mem) : Prop := ∀ k : Int, 0 ≤ k → k < 4 → (s 0 4 k = s 34 68 k ∧ (s 0 4 k = 0 ∨ s 0 4 k = 1)) ∧ (s 0 4 k = 1 → RS (s (8 + 3 * k.toNat + 1)) (s (8 + 3 * k.toNat + 2)) (s (8 + 3 * k.toNat)) (MI s k) 9999)
def Rul (s : Mem) : Prop := (0 ≤ s 0 6 0 ∧ s 0 6 0 ≤ 6) ∧ s 34 36 0 = s 0 6 0 ∧ ∀ r : Int, 0 ≤ r → r < s 0 6 0 → RR (s (28 + r.toNat)) (s 34) r
def RSm (s : Mem) : Prop := RS (s 3) (s 4) (s 2) (MM s) 9999
def Inv (s : Mem) : Prop := RSm s ∧ Tap s ∧ Sts s ∧ Img s ∧ Rul s ∧ s 34 41 0 = 9
theorem RS_M {S T U M M' : Nat → Int → Int} {D : Int} (e : ∀ a, a < 20 → M' a = M a) (h : RS S T U M D) : RS S T U M' D := by
  unfold RS RSh RTo Bal Flw Sca Frm Kno Wei Lev Boo Std Edn at h ⊢
  rw [e 0 (by omega), e 1 (by omega), e 2 (by omega), e 3 (by omega), e 4 (by omega), e 5 (by omega), e 6 (by omega), e 7 (by omega), e 8 (by omega), e 9 (by omega), e 10 (by omega), e 11 (by omega), e 12 (by omega), e 13 (by omega), e 14 (by omega), e 15 (by omega), e 16 (by omega), e 17 (by omega), e 18 (by omega), e 19 (by omega)]
  exact h
theorem RS_U {S T U U' M : Nat → Int → Int} {D : Int} (e : ∀ j, 2 ≤ j → j ≤ 12 → U' j = U j) (h : RS S T U M D) : RS S T U' M D := by
  unfold RS Std Edn at h ⊢
  rw [e 2 (by omega) (by omega), e 3 (by omega) (by omega), e 4 (by omega) (by omega), e 5 (by omega) (by omega), e 6 (by omega) (by omega), e 7 (by omega) (by omega), e 8 (by omega) (by omega), e 9 (by omega) (by omega), e 10 (by omega) (by omega), e 11 (by omega) (by omega), e 12 (by omega) (by omega)]
  exact h
theorem RR_R {R R' m m' : Nat → Int → Int} {r : Int} (e : ∀ j, j < 7 → R' j = R j) (e2 : ∀ j, 44 ≤ j → j ≤ 50 → m' j = m j) (h : RR R m r) : RR R' m' r := by
  unfold RR at h ⊢
  rw [e 0 (by omega), e 1 (by omega), e 2 (by omega), e 3 (by omega), e 4 (by omega), e 5 (by omega), e 6 (by omega), e2 44 (by omega) (by omega), e2 45 (by omega) (by omega), e2 46 (by omega) (by omega), e2 47 (by omega) (by omega), e2 48 (by omega) (by omega), e2 49 (by omega) (by omega), e2 50 (by omega) (by omega)]
  exact h
/-- the reference's rows that stay between calls -/
def kpJ (j : Nat) : Prop := (1 ≤ j ∧ j ≤ 11) ∨ (22 ≤ j ∧ j ≤ 32) ∨ j = 36 ∨ j = 41 ∨ (43 ≤ j ∧ j ≤ 50) ∨ j = 67 ∨ j = 68
theorem kpJ_mfld {a : Nat} (h : a < 20) : kpJ (mfld a) := by
  unfold kpJ mfld
  split <;> omega
theorem MM_kp {s t : Mem} (h : ∀ j, kpJ j → t 34 j = s 34 j) : ∀ a, a < 20 → MM t a = MM s a := fun _ ha => h _ (kpJ_mfld ha)
theorem MI_kp {s t : Mem} (h : ∀ j, kpJ j → t 34 j = s 34 j) (k : Int) : MI t k = MI s k := by
  funext a i
  show t 34 67 _ = s 34 67 _
  rw [h 67 (by unfold kpJ; omega)]
/-- objects that stay: what is told of them -/
theorem Inv_of {s t : Mem} (h : Inv s) (h0 : ∀ j, (j = 4 ∨ j = 6 ∨ j = 7) → t 0 j = s 0 j) (h1 : ∀ j, j < 2 → t 1 j = s 1 j) (h2 : ∀ o, (3 ≤ o ∧ o ≤ 4) ∨ (8 ≤ o ∧ o ≤ 19) → t o = s o) (hu : ∀ j, 2 ≤ j → j ≤ 12 → t 2 j = s 2 j) (hr : ∀ o j, 28 ≤ o → o ≤ 33 → j < 7 → t o j = s o j) (hm : ∀ j, kpJ j → t 34 j = s 34 j) : Inv t := by
  obtain ⟨a1, a2, a3, a4, a5, a6⟩ := h
  refine ⟨?_, ?_, ?_, ?_, ?_, by rw [hm 41 (by unfold kpJ; omega)]; exact a6⟩
  · unfold RSm at a1 ⊢
    rw [h2 3 (by omega), h2 4 (by omega)]
    exact RS_U hu (RS_M (MM_kp hm) a1)
  · unfold Tap at a2 ⊢
    rw [h1 0 (by omega), h1 1 (by omega), hm 32 (by unfold kpJ; omega), hm 43 (by unfold kpJ; omega)]
    exact a2
  · unfold Sts at a3 ⊢
    rw [h0 7 (by omega), hm 1 (by unfold kpJ; omega)]
    exact a3
  · intro k k0 k1
    obtain ⟨b1, b2⟩ := a4 k k0 k1
    rw [h0 4 (by omega), hm 68 (by unfold kpJ; omega), h2 (8 + 3 * k.toNat + 1) (by omega), h2 (8 + 3 * k.toNat + 2) (by omega), h2 (8 + 3 * k.toNat) (by omega), MI_kp hm]
    exact ⟨b1, b2⟩
  · obtain ⟨b1, b2, b3⟩ := a5
    refine ⟨by rw [h0 6 (by omega)]; exact b1, by rw [h0 6 (by omega), hm 36 (by unfold kpJ; omega)]; exact b2, fun r r0 r1 => ?_⟩
    rw [h0 6 (by omega)] at r1
    exact RR_R (fun j hj => hr _ j (by omega) (by omega) hj) (fun j j0 j1 => hm j (by unfold kpJ; omega)) (b3 r r0 r1)
/-- the class's rows that only one call uses -/
theorem Inv_C {s t : Mem} (h : Inv s) (hF : FrO (fun o => (5 ≤ o ∧ o ≤ 7) ∨ (20 ≤ o ∧ o ≤ 27)) s t) : Inv t :=
  Inv_of h (fun j _ => by rw [hF 0 (by omega)]) (fun j _ => by rw [hF 1 (by omega)]) (fun o ho => hF o (by omega)) (fun j _ _ => by rw [hF 2 (by omega)]) (fun o j a b _ => by rw [hF o (by omega)]) (fun j _ => by rw [hF 34 (by omega)])
theorem Inv_Mo {s t : Mem} (h : Inv s) (hF : FrJ 34 (fun j => ¬ kpJ j) s t) : Inv t :=
  Inv_of h (fun j _ => by rw [hF.1 0 (by omega)]) (fun j _ => by rw [hF.1 1 (by omega)]) (fun o ho => hF.1 o (by omega)) (fun j _ _ => by rw [hF.1 2 (by omega)]) (fun o j a b _ => by rw [hF.1 o (by omega)]) (fun j hj => hF.2 j (fun q => q hj))
