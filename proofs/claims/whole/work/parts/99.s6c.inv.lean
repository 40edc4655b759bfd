/-! ===== nothing has been said yet: both sides stand alike ===== -/
theorem RS_zz {D : Int} (hD : 0 ≤ D) : RS (fun _ _ => 0) (fun _ _ => 0) (fun _ _ => 0) (fun _ _ => 0) D := by
  have np : ∀ {P : Prop} {k : Int}, 0 ≤ k → k < 0 → P := fun a b => absurd b (by omega)
  refine ⟨⟨⟨by decide, rfl, fun b a c => np a c⟩, ⟨by decide, by decide, rfl, fun k a c => np a c⟩, ⟨by decide, by decide, by decide, by decide, by decide⟩, ⟨by decide, fun f a c => np a c⟩⟩, ⟨⟨by decide, fun k a c => np a c⟩, fun k _ _ => ⟨rfl, show (0 : Int) ≤ 0 by decide, show (0 : Int) ≤ 9 by decide⟩, ⟨by decide, fun k a c => np a c⟩, ⟨by decide, fun k a c => np a c, fun c _ _ => rfl⟩⟩, ⟨rfl, rfl, rfl, rfl, ⟨rfl, Int.le_refl 0, hD⟩, by decide⟩, ⟨by decide, fun e a c => np a c⟩⟩
theorem RS_zero {S T U M : Nat → Int → Int} (hS : S = fun _ _ => 0) (hT : T = fun _ _ => 0) (hU : U = fun _ _ => 0) (hM : ∀ a, a < 20 → M a = fun _ => 0) : RS S T U M 9999 := by
  subst hS hT hU
  exact RS_M (M := fun _ _ => 0) hM (RS_zz (by decide))
theorem s0_o {o : Nat} (h : o ≠ 34) : s0 o = fun _ _ => 0 := funext fun _ => funext fun _ => if_neg fun q => h q.1
theorem s0_j {j : Nat} (h : j ≠ 41) : s0 34 j = fun _ => 0 := funext fun _ => if_neg fun q => h q.2
theorem Inv_s0 : Inv s0 := by
  have np : ∀ {P : Prop} {k : Int}, 0 ≤ k → k < 0 → P := fun a b => absurd b (by omega)
  refine ⟨?_, ⟨⟨Int.le_refl 0, by decide⟩, rfl, fun i a b => np a b⟩, fun i _ _ => rfl, fun k _ _ => ⟨⟨rfl, Or.inl rfl⟩, fun h => absurd (show (0 : Int) = 1 from h) (by decide)⟩, ⟨⟨Int.le_refl 0, by decide⟩, rfl, fun r a b => np a b⟩, rfl⟩
  refine RS_zero (s0_o (by decide)) (s0_o (by decide)) (s0_o (by decide)) (fun a ha => s0_j ?_)
  unfold mfld
  split <;> omega
