/-! ===== RULES: the steps' values ===== -/
def jn (k a b : Int) : Int :=
  if k = 2 then a * b else if k = 3 then (if wL b = 0 then 0 else ldv a b) else if k = 4 then (if wL b = 0 then 0 else lrm a b)
  else if k = 5 then a + b else if k = 6 then a - b
  else if k = 7 then b2 (wL a < wL b) else if k = 8 then b2 (wL a ≤ wL b) else if k = 9 then b2 (wL a = wL b) else if k = 10 then b2 (wL b ≤ wL a) else if k = 11 then b2 (wL b < wL a)
  else if k = 13 then bAndL a b else bOrL a b
theorem wL_0 : wL 0 = 0 := by decide
theorem p_ru_join {k a b : Int} {s : Mem} {Q : Int → Mem → Prop} (hk : 2 ≤ k ∧ k ≤ 14 ∧ ¬ k = 12) (h : Q (jn k a b) s) : W_ru_join k a b s Q := by
  refine w_ru_join (b_ru_join_0 ?_)
  unfold T_ru_join_0 T_ru_join_64 T_ru_join_68 T_ru_join_78 T_ru_join_81 T_ru_join_82 T_ru_join_92 T_ru_join_95 T_ru_join_96 T_ru_join_100 T_ru_join_104 T_ru_join_114 T_ru_join_115 T_ru_join_116 T_ru_join_126 T_ru_join_127 T_ru_join_128 T_ru_join_138 T_ru_join_139 T_ru_join_140 T_ru_join_150 T_ru_join_151 T_ru_join_152 T_ru_join_162 T_ru_join_163 T_ru_join_164 T_ru_join_168
  rw [wr_id (x := k) (by omega) (by omega), lcp_ge, lcp_gt, lcp_eq, lcp_eq, lcp_lt, lcp_le, wL_0]
  unfold jn at h
  refine ⟨⟨fun q => ?_, fun q => ?_, fun q => ?_, fun q => ?_, fun q => ?_, fun q => ?_, fun q => ?_, fun q => ?_, fun q => ?_, fun q => ?_, fun q => ?_, fun q => ?_, trivial⟩, fun q => ?_⟩
  · rw [if_pos q] at h
    exact h
  · rw [if_neg (by omega), if_pos q] at h
    refine ⟨fun c => ⟨c, ?_⟩, fun c => ?_⟩
    · rw [if_neg c] at h
      exact h
    · rw [if_pos (Decidable.byContradiction c)] at h
      exact h
  · rw [if_neg (by omega), if_neg (by omega), if_pos q] at h
    refine ⟨fun c => ⟨c, ?_⟩, fun c => ?_⟩
    · rw [if_neg c] at h
      exact h
    · rw [if_pos (Decidable.byContradiction c)] at h
      exact h
  · rw [if_neg (by omega), if_neg (by omega), if_neg (by omega), if_pos q] at h
    exact h
  · rw [if_neg (by omega), if_neg (by omega), if_neg (by omega), if_neg (by omega), if_pos q] at h
    exact h
  · rw [if_neg (by omega), if_neg (by omega), if_neg (by omega), if_neg (by omega), if_neg (by omega), if_pos q] at h
    refine ⟨fun c => ?_, fun c => ?_⟩
    · rw [b2_f (by omega)] at h
      exact h
    · rw [b2_t (by omega)] at h
      exact h
  · rw [if_neg (by omega), if_neg (by omega), if_neg (by omega), if_neg (by omega), if_neg (by omega), if_neg (by omega), if_pos q] at h
    refine ⟨fun c => ?_, fun c => ?_⟩
    · rw [b2_f (by omega)] at h
      exact h
    · rw [b2_t (by omega)] at h
      exact h
  · rw [if_neg (by omega), if_neg (by omega), if_neg (by omega), if_neg (by omega), if_neg (by omega), if_neg (by omega), if_neg (by omega), if_pos q] at h
    refine ⟨fun c => ?_, fun c => ?_⟩
    · rw [b2_f (by omega)] at h
      exact h
    · rw [b2_t (by omega)] at h
      exact h
  · rw [if_neg (by omega), if_neg (by omega), if_neg (by omega), if_neg (by omega), if_neg (by omega), if_neg (by omega), if_neg (by omega), if_neg (by omega), if_pos q] at h
    refine ⟨fun c => ?_, fun c => ?_⟩
    · rw [b2_f (by omega)] at h
      exact h
    · rw [b2_t (by omega)] at h
      exact h
  · rw [if_neg (by omega), if_neg (by omega), if_neg (by omega), if_neg (by omega), if_neg (by omega), if_neg (by omega), if_neg (by omega), if_neg (by omega), if_neg (by omega), if_pos q] at h
    refine ⟨fun c => ?_, fun c => ?_⟩
    · rw [b2_f (by omega)] at h
      exact h
    · rw [b2_t (by omega)] at h
      exact h
  · exact absurd q hk.2.2
  · rw [if_neg (by omega), if_neg (by omega), if_neg (by omega), if_neg (by omega), if_neg (by omega), if_neg (by omega), if_neg (by omega), if_neg (by omega), if_neg (by omega), if_neg (by omega), if_pos q] at h
    exact h
  · rw [if_neg (by omega), if_neg (by omega), if_neg (by omega), if_neg (by omega), if_neg (by omega), if_neg (by omega), if_neg (by omega), if_neg (by omega), if_neg (by omega), if_neg (by omega), if_neg (by omega)] at h
    exact h
