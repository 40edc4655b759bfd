/-! ===== RULES: the steps' values ===== -/
def jn (k a b : Int) : Int :=
  if k = 2 then a * b else if k = 3 then (if wL b = 0 then 0 else ldv a b) else if k = 4 then (if wL b = 0 then 0 else lrm a b)
  else if k = 5 then a + b else if k = 6 then a - b
  else if k = 7 then b2 (wL a < wL b) else if k = 8 then b2 (wL a ≤ wL b) else if k = 9 then b2 (wL a = wL b) else if k = 10 then b2 (wL b ≤ wL a) else if k = 11 then b2 (wL b < wL a)
  else if k = 13 then bAndL a b else bOrL a b
theorem wL_0 : wL 0 = 0 := by decide
theorem p_ru_join {k a b : Int} {s : Mem} {Q : Int → Mem → Prop} (hk : 2 ≤ k ∧ k ≤ 14 ∧ ¬ k = 12) (h : Q (jn k a b) s) : W_ru_join k a b s Q := by
  refine w_ru_join (b_ru_join_0 ?_)
  unfold T_ru_join_0 T_ru_join_64 T_ru_join_68 T_ru_join_78 T_ru_join_81 T_ru_join_82 T_ru_join_92 T_ru_join_95 T_ru_join_96 T_ru_join_100 T_ru_join_104 T_ru_join_114 T_ru_join_115 T_ru_join_116 T_ru_join_126 T_ru_join_127 T_ru_join_128 T_ru_join_138 T_ru_join_139 T_ru_join_140 T_ru_join_150 T_ru_join_151 T_ru_join_152 T_ru_join_162 T_ru_join_163 T_ru_join_164 T_ru_join_168
  rw [wr_id (x := k) (by omega) (by omega), lcp_ge, lcp_gt, lcp_eq, lcp_eq, lcp_lt, lcp_le, wL_0]
  unfold jn at h
  refine ⟨⟨fun q => ?_, fun q => ?_, fun q => ?_, fun q => ?_, fun q => ?_, fun q => ?_, fun q => ?_, fun q => ?_, fun q => ?_, fun q => ?_, fun q => ?_, fun q => ?_, trivial⟩, fun q => ?_⟩
  · rw [if_pos q] at h
    exact h
  · rw [if_neg (by omega), if_pos q] at h
    refine ⟨fun c => ⟨c, ?_⟩, fun c => ?_⟩
    · rw [if_neg c] at h
      exact h
    · rw [if_pos (Decidable.byContradiction c)] at h
      exact h
  · rw [if_neg (by omega), if_neg (by omega), if_pos q] at h
    refine ⟨fun c => ⟨c, ?_⟩, fun c => ?_⟩
    · rw [if_neg c] at h
      exact h
    · rw [if_pos (Decidable.byContradiction c)] at h
      exact h
  · rw [if_neg (by omega), if_neg (by omega), if_neg (by omega), if_pos q] at h
    exact h
  · rw [if_neg (by omega), if_neg (by omega), if_neg (by omega), if_neg (by omega), if_pos q] at h
    exact h
  · rw [if_neg (by omega), if_neg (by omega), if_neg (by omega), if_neg (by omega), if_neg (by omega), if_pos q] at h
    refine ⟨fun c => ?_, fun c => ?_⟩
    · rw [b2_f (by omega)] at h
      exact h
    · rw [b2_t (by omega)] at h
      exact h
  · rw [if_neg (by omega), if_neg (by omega), if_neg (by omega), if_neg (by omega), if_neg (by omega), if_neg (by omega), if_pos q] at h
    refine ⟨fun c => ?_, fun c => ?_⟩
    · rw [b2_f (by omega)] at h
      exact h
    · rw [b2_t (by omega)] at h
      exact h
  · rw [if_neg (by omega), if_neg (by omega), if_neg (by omega), if_neg (by omega), if_neg (by omega), if_neg (by omega), if_neg (by omega), if_pos q] at h
    refine ⟨fun c => ?_, fun c => ?_⟩
    · rw [b2_f (by omega)] at h
      exact h
    · rw [b2_t (by omega)] at h
      exact h
  · rw [if_neg (by omega), if_neg (by omega), if_neg (by omega), if_neg (by omega), if_neg (by omega), if_neg (by omega), if_neg (by omega), if_neg (by omega), if_pos q] at h
    refine ⟨fun c => ?_, fun c => ?_⟩
    · rw [b2_f (by omega)] at h
      exact h
    · rw [b2_t (by omega)] at h
      exact h
  · rw [if_neg (by omega), if_neg (by omega), if_neg (by omega), if_neg (by omega), if_neg (by omega), if_neg (by omega), if_neg (by omega), if_neg (by omega), if_neg (by omega), if_pos q] at h
    refine ⟨fun c => ?_, fun c => ?_⟩
    · rw [b2_f (by omega)] at h
      exact h
    · rw [b2_t (by omega)] at h
      exact h
  · exact absurd q hk.2.2
  · rw [if_neg (by omega), if_neg (by omega), if_neg (by omega), if_neg (by omega), if_neg (by omega), if_neg (by omega), if_neg (by omega), if_neg (by omega), if_neg (by omega), if_neg (by omega), if_pos q] at h
    exact h
  · rw [if_neg (by omega), if_neg (by omega), if_neg (by omega), if_neg (by omega), if_neg (by omega), if_neg (by omega), if_neg (by omega), if_neg (by omega), if_neg (by omega), if_neg (by omega), if_neg (by omega)] at h
    exact h
theorem p_md_truth {p : Prop} [Decidable p] {s : Mem} {Q : Int → Mem → Prop} (h : Q (b2 p) s) : W_md_truth (b2 p) s Q := by
  refine w_md_truth (b_md_truth_0 ?_)
  unfold T_md_truth_0 T_md_truth_8 T_md_truth_9
  rw [b2_w0]
  refine ⟨fun c => ?_, fun c => ?_⟩
  · rw [b2_f c] at h
    exact h
  · rw [b2_t (Decidable.byContradiction c)] at h
    exact h
theorem p_md_truth1 {s : Mem} {Q : Int → Mem → Prop} {p : Prop} [Decidable p] (hp : p) (h : Q (b2 p) s) : W_md_truth 1 s Q := by
  have := p_md_truth h
  rw [b2_t hp] at this
  exact this
theorem p_md_truth0 {s : Mem} {Q : Int → Mem → Prop} {p : Prop} [Decidable p] (hp : ¬ p) (h : Q (b2 p) s) : W_md_truth 0 s Q := by
  have := p_md_truth h
  rw [b2_f hp] at this
  exact this
theorem p_md_both {k a b : Int} {s : Mem} {Q : Int → Mem → Prop} (hk : 2 ≤ k ∧ k ≤ 14 ∧ ¬ k = 12) (h : Q (jn k a b) s) : W_md_both (kap k) a b s Q := by
  refine w_md_both (b_md_both_0 ?_)
  unfold T_md_both_0 T_md_both_72 T_md_both_76 T_md_both_80 T_md_both_84 T_md_both_94 T_md_both_97 T_md_both_98 T_md_both_108 T_md_both_111 T_md_both_112 T_md_both_122 T_md_both_123 T_md_both_127 T_md_both_137 T_md_both_138 T_md_both_142 T_md_both_152 T_md_both_153 T_md_both_157 T_md_both_167 T_md_both_168 T_md_both_172 T_md_both_182 T_md_both_183 T_md_both_187 T_md_both_191
  rw [lcp_ge, lcp_gt, lcp_eq, lcp_eq, lcp_lt, lcp_le, wL_0]
  have sel : ∀ {x : Int} {A2 A3 A4 A5 A6 A7 A8 A9 A10 A11 A12 A13 A14 A15 A0 : Prop}, (2 ≤ x ∧ x ≤ 15) → (x = 2 → A2) → (x = 3 → A3) → (x = 4 → A4) → (x = 5 → A5) → (x = 6 → A6) → (x = 7 → A7) → (x = 8 → A8) → (x = 9 → A9) → (x = 10 → A10) → (x = 11 → A11) → (x = 12 → A12) → (x = 13 → A13) → (x = 14 → A14) → (x = 15 → A15) → (((x = 2 → A2) ∧ (x = 3 → A3) ∧ (x = 4 → A4) ∧ (x = 5 → A5) ∧ (x = 6 → A6) ∧ (x = 7 → A7) ∧ (x = 8 → A8) ∧ (x = 9 → A9) ∧ (x = 10 → A10) ∧ (x = 11 → A11) ∧ (x = 12 → A12) ∧ (x = 13 → A13) ∧ (x = 14 → A14) ∧ (x = 15 → A15) ∧ True) ∧ (x < 2 ∨ 15 < x → A0)) := fun hx a b c d e f g h i j k l m n => ⟨⟨a, b, c, d, e, f, g, h, i, j, k, l, m, n, trivial⟩, fun q => by omega⟩
  rcases (show k = 2 ∨ k = 3 ∨ k = 4 ∨ k = 5 ∨ k = 6 ∨ k = 7 ∨ k = 8 ∨ k = 9 ∨ k = 10 ∨ k = 11 ∨ k = 13 ∨ k = 14 by omega) with q | q | q | q | q | q | q | q | q | q | q | q <;> subst q
  · rw [show wr (kap 2) = 13 by decide]
    exact sel (by decide) (fun z => absurd z (by decide)) (fun z => absurd z (by decide)) (fun z => absurd z (by decide)) (fun z => absurd z (by decide)) (fun z => absurd z (by decide)) (fun z => absurd z (by decide)) (fun z => absurd z (by decide)) (fun z => absurd z (by decide)) (fun z => absurd z (by decide)) (fun z => absurd z (by decide)) (fun z => absurd z (by decide)) (fun _ => h) (fun z => absurd z (by decide)) (fun z => absurd z (by decide))
  · rw [show wr (kap 3) = 14 by decide]
    have h : Q (if wL b = 0 then 0 else ldv a b) s := h
    refine sel (by decide) (fun z => absurd z (by decide)) (fun z => absurd z (by decide)) (fun z => absurd z (by decide)) (fun z => absurd z (by decide)) (fun z => absurd z (by decide)) (fun z => absurd z (by decide)) (fun z => absurd z (by decide)) (fun z => absurd z (by decide)) (fun z => absurd z (by decide)) (fun z => absurd z (by decide)) (fun z => absurd z (by decide)) (fun z => absurd z (by decide)) (fun _ => ⟨fun c => ⟨c, ?_⟩, fun c => ?_⟩) (fun z => absurd z (by decide))
    · rw [if_neg c] at h
      exact h
    · rw [if_pos (Decidable.byContradiction c)] at h
      exact h
  · rw [show wr (kap 4) = 15 by decide]
    have h : Q (if wL b = 0 then 0 else lrm a b) s := h
    refine sel (by decide) (fun z => absurd z (by decide)) (fun z => absurd z (by decide)) (fun z => absurd z (by decide)) (fun z => absurd z (by decide)) (fun z => absurd z (by decide)) (fun z => absurd z (by decide)) (fun z => absurd z (by decide)) (fun z => absurd z (by decide)) (fun z => absurd z (by decide)) (fun z => absurd z (by decide)) (fun z => absurd z (by decide)) (fun z => absurd z (by decide)) (fun z => absurd z (by decide)) (fun _ => ⟨fun c => ⟨c, ?_⟩, fun c => ?_⟩)
    · rw [if_neg c] at h
      exact h
    · rw [if_pos (Decidable.byContradiction c)] at h
      exact h
  · rw [show wr (kap 5) = 2 by decide]
    exact sel (by decide) (fun _ => h) (fun z => absurd z (by decide)) (fun z => absurd z (by decide)) (fun z => absurd z (by decide)) (fun z => absurd z (by decide)) (fun z => absurd z (by decide)) (fun z => absurd z (by decide)) (fun z => absurd z (by decide)) (fun z => absurd z (by decide)) (fun z => absurd z (by decide)) (fun z => absurd z (by decide)) (fun z => absurd z (by decide)) (fun z => absurd z (by decide)) (fun z => absurd z (by decide))
  · rw [show wr (kap 6) = 3 by decide]
    exact sel (by decide) (fun z => absurd z (by decide)) (fun _ => h) (fun z => absurd z (by decide)) (fun z => absurd z (by decide)) (fun z => absurd z (by decide)) (fun z => absurd z (by decide)) (fun z => absurd z (by decide)) (fun z => absurd z (by decide)) (fun z => absurd z (by decide)) (fun z => absurd z (by decide)) (fun z => absurd z (by decide)) (fun z => absurd z (by decide)) (fun z => absurd z (by decide)) (fun z => absurd z (by decide))
  · rw [show wr (kap 7) = 4 by decide]
    have h : Q (b2 (wL a < wL b)) s := h
    exact sel (by decide) (fun z => absurd z (by decide)) (fun z => absurd z (by decide)) (fun _ => ⟨fun c => p_md_truth0 (by omega) h, fun c => p_md_truth1 (by omega) h⟩) (fun z => absurd z (by decide)) (fun z => absurd z (by decide)) (fun z => absurd z (by decide)) (fun z => absurd z (by decide)) (fun z => absurd z (by decide)) (fun z => absurd z (by decide)) (fun z => absurd z (by decide)) (fun z => absurd z (by decide)) (fun z => absurd z (by decide)) (fun z => absurd z (by decide)) (fun z => absurd z (by decide))
  · rw [show wr (kap 8) = 5 by decide]
    have h : Q (b2 (wL a ≤ wL b)) s := h
    exact sel (by decide) (fun z => absurd z (by decide)) (fun z => absurd z (by decide)) (fun z => absurd z (by decide)) (fun _ => ⟨fun c => p_md_truth0 (by omega) h, fun c => p_md_truth1 (by omega) h⟩) (fun z => absurd z (by decide)) (fun z => absurd z (by decide)) (fun z => absurd z (by decide)) (fun z => absurd z (by decide)) (fun z => absurd z (by decide)) (fun z => absurd z (by decide)) (fun z => absurd z (by decide)) (fun z => absurd z (by decide)) (fun z => absurd z (by decide)) (fun z => absurd z (by decide))
  · rw [show wr (kap 9) = 6 by decide]
    have h : Q (b2 (wL a = wL b)) s := h
    exact sel (by decide) (fun z => absurd z (by decide)) (fun z => absurd z (by decide)) (fun z => absurd z (by decide)) (fun z => absurd z (by decide)) (fun _ => ⟨fun c => p_md_truth0 (by omega) h, fun c => p_md_truth1 (by omega) h⟩) (fun z => absurd z (by decide)) (fun z => absurd z (by decide)) (fun z => absurd z (by decide)) (fun z => absurd z (by decide)) (fun z => absurd z (by decide)) (fun z => absurd z (by decide)) (fun z => absurd z (by decide)) (fun z => absurd z (by decide)) (fun z => absurd z (by decide))
  · rw [show wr (kap 10) = 7 by decide]
    have h : Q (b2 (wL b ≤ wL a)) s := h
    exact sel (by decide) (fun z => absurd z (by decide)) (fun z => absurd z (by decide)) (fun z => absurd z (by decide)) (fun z => absurd z (by decide)) (fun z => absurd z (by decide)) (fun _ => ⟨fun c => p_md_truth0 (by omega) h, fun c => p_md_truth1 (by omega) h⟩) (fun z => absurd z (by decide)) (fun z => absurd z (by decide)) (fun z => absurd z (by decide)) (fun z => absurd z (by decide)) (fun z => absurd z (by decide)) (fun z => absurd z (by decide)) (fun z => absurd z (by decide)) (fun z => absurd z (by decide))
  · rw [show wr (kap 11) = 8 by decide]
    have h : Q (b2 (wL b < wL a)) s := h
    exact sel (by decide) (fun z => absurd z (by decide)) (fun z => absurd z (by decide)) (fun z => absurd z (by decide)) (fun z => absurd z (by decide)) (fun z => absurd z (by decide)) (fun z => absurd z (by decide)) (fun _ => ⟨fun c => p_md_truth0 (by omega) h, fun c => p_md_truth1 (by omega) h⟩) (fun z => absurd z (by decide)) (fun z => absurd z (by decide)) (fun z => absurd z (by decide)) (fun z => absurd z (by decide)) (fun z => absurd z (by decide)) (fun z => absurd z (by decide)) (fun z => absurd z (by decide))
  · rw [show wr (kap 13) = 10 by decide]
    exact sel (by decide) (fun z => absurd z (by decide)) (fun z => absurd z (by decide)) (fun z => absurd z (by decide)) (fun z => absurd z (by decide)) (fun z => absurd z (by decide)) (fun z => absurd z (by decide)) (fun z => absurd z (by decide)) (fun z => absurd z (by decide)) (fun _ => h) (fun z => absurd z (by decide)) (fun z => absurd z (by decide)) (fun z => absurd z (by decide)) (fun z => absurd z (by decide)) (fun z => absurd z (by decide))
  · rw [show wr (kap 14) = 11 by decide]
    exact sel (by decide) (fun z => absurd z (by decide)) (fun z => absurd z (by decide)) (fun z => absurd z (by decide)) (fun z => absurd z (by decide)) (fun z => absurd z (by decide)) (fun z => absurd z (by decide)) (fun z => absurd z (by decide)) (fun z => absurd z (by decide)) (fun z => absurd z (by decide)) (fun _ => h) (fun z => absurd z (by decide)) (fun z => absurd z (by decide)) (fun z => absurd z (by decide)) (fun z => absurd z (by decide))
