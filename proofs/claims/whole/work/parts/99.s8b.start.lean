theorem whole_start {p : Program} {e : Env} {s : State} {m : MethodId} {below : List Frame} {meth : Method} {c : Code} (l : Launch) (hflags : l.flags = flags0) {b L : Nat} {xs : Nat → Int32} (hL : L ≤ 3072) (C0 : lw_At p s m meth c b L xs) : W p l e room_1 s m #[Value.ref b] below meth c s.heap [] 0 0 (lw_Z below #[Value.ref b] s) (entryFrame m ([Value.ref b] : List Value).toArray 4) := by
  obtain ⟨hx, hb, hr, hml, hown, hts, hX, hbl, hlocks, hgv⟩ := id C0
  have hg : ∀ w ∈ gtb, w.before #[Value.ref b] s = true := fun w hw => hts w (List.mem_filter.mp hw).1
  obtain ⟨D, cA, hK⟩ := K_start hts
  have hex := ex_start hts
  have hA : ∀ a : Nat, a < s.heap.size → ¬ s.heap.size ≤ a := fun a h => Nat.not_le.mpr h
  obtain ⟨v5, hKC⟩ := KC_start (z := s.heap.size) (b := b) (ad := adZ s.heap.size) hts hgv hA
  have hl := lv_entry ([.ref b]) (n := 4) (Nat.le_of_ble_eq_true rfl)
  rw [lg_entry_eq]
  generalize (lg_sl ([.ref b]) ++ List.replicate (4 - (lg_sl ([.ref b])).length) Slot.unset).toArray = ls at hl ⊢
  have hl : lv_has ls 4 [(0, .ref b)] := hl
  refine law_head (R := room_1) hx hb hml hown hg hK hex ⟨by decide, by decide, by decide, by decide⟩ hl (fun H1 locs1 ls1 hP hS hl1 => ?_)
  refine W.widen (k := 600000) (n := 7302250) (by decide) (by decide) ?_
  have hxs : ∀ j, I32 ((xs j).toInt) := fun j => ⟨Int32.le_toInt (xs j), Int32.toInt_lt (xs j)⟩
  have hloop : K_law_18 L (fun j => (xs j).toInt) (fun r _ => r = 1) 0 s0 := law_loop hxs hL (fun _ => rfl) (L + 1) 0 s0 (by omega) (by omega) (by omega) Inv_s0
  unfold K_law_18 at hloop
  have e7 : kdS #[Value.ref b] s b v5 7 = .ref b := rfl
  have hC : CX p room_1 s m #[Value.ref b] c 600000 7302250 cL_law D (adZ s.heap.size) cA (kdS #[Value.ref b] s b v5) s.heap.size RL (E_law L (fun j => (xs j).toInt)) 14 := by
    refine ⟨⟨hx, hb, hml, hown, hg⟩, ⟨hK, fun τ => D_start _ cA τ, hKC⟩, ⟨fun f h => absurd h List.not_mem_nil, fun f h => absurd h List.not_mem_nil, ck_law L _⟩, ⟨⟨fun d h => ⟨by show d + 1 ≤ 2048; omega, by show 39 + 40 * d ≤ 84000; omega⟩, by decide⟩, Nat.le_refl _, Nat.le_refl _⟩, fun _ => ⟨b, e7, ?_, hbl, hA b hbl⟩⟩
    show va_X b L (fun j => iI ((xs j).toInt)) s s.heap
    rw [show (fun j => iI ((xs j).toInt)) = xs from funext fun j => iI_toInt _]
    exact hX
  have hl2 : lv_has ls1 4 (lm (adZ s.heap.size) (kdS #[Value.ref b] s b v5) ([0, 1, 2, 3].zip [vC 7, vR 0 0, vR 34 0, vI 0])) := by
    show lv_has ls1 4 [(0, kdS #[Value.ref b] s b v5 7), (1, .ref (adZ s.heap.size (0, 0))), (2, .ref (adZ s.heap.size (34, 0))), (3, .int (iI 0))]
    rw [e7, show iI 0 = (0 : Int32) from rfl]
    exact hl1
  refine wps_sound hC ok_law ?_ hloop ls1 H1 locs1 ([0, 1, 2, 3], BL_18) rfl hl2 ⟨hP, hS⟩
  intro v ins pc σ' ls' H' locs' hi hd hI hp
  obtain ⟨-, x, ⟨hv, -⟩, h1⟩ := hp
  subst h1 hv
  have fin : ins = .ireturn := by
    rcases hi with ⟨h, -⟩ | ⟨-, y, hy⟩ | ⟨-, q, hy⟩ | ⟨-, hy⟩
    · exact h
    · cases hy
    · cases hy
    · cases hy
  subst fin
  refine va_forget (fun q hq => hI.2.2.2 q hq) ?_
  show W p l e room_1 s m #[Value.ref b] below meth c H' [] 600000 7302250 (lw_Z below #[Value.ref b] s) (F0 m pc ls' [.int (iI 1)])
  rw [show iI 1 = (1 : Int32) from rfl]
  exact lw_ret hx hb hr hlocks hd
