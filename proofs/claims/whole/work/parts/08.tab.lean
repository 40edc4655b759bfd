/-! ===== what the tables say of fields, constants, methods ===== -/
theorem gk_1 {w : Cond} (i : Nat) (h : tables_1_1[i]? = some w) (hg : goodWord w = true) : w ∈ gtb := by
  have h1 : w ∈ tables_1_1 := List.mem_of_getElem? h
  exact List.mem_filter.mpr ⟨List.mem_append_right _ (List.mem_append_left _ h1), hg⟩
theorem gk_2 {w : Cond} (i : Nat) (h : tables_1_2[i]? = some w) (hg : goodWord w = true) : w ∈ gtb := by
  have h1 : w ∈ tables_1_2 := List.mem_of_getElem? h
  exact List.mem_filter.mpr ⟨List.mem_append_right _ (List.mem_append_right _ (List.mem_append_left _ h1)), hg⟩
theorem gk_3 {w : Cond} (i : Nat) (h : tables_1_3[i]? = some w) (hg : goodWord w = true) : w ∈ gtb := by
  have h1 : w ∈ tables_1_3 := List.mem_of_getElem? h
  exact List.mem_filter.mpr ⟨List.mem_append_right _ (List.mem_append_right _ (List.mem_append_right _ (List.mem_append_left _ h1))), hg⟩
theorem gk_4 {w : Cond} (i : Nat) (h : tables_1_4[i]? = some w) (hg : goodWord w = true) : w ∈ gtb := by
  have h1 : w ∈ tables_1_4 := List.mem_of_getElem? h
  exact List.mem_filter.mpr ⟨List.mem_append_right _ (List.mem_append_right _ (List.mem_append_right _ (List.mem_append_right _ (List.mem_append_left _ h1)))), hg⟩
theorem gk_5 {w : Cond} (i : Nat) (h : tables_1_5[i]? = some w) (hg : goodWord w = true) : w ∈ gtb := by
  have h1 : w ∈ tables_1_5 := List.mem_of_getElem? h
  exact List.mem_filter.mpr ⟨List.mem_append_right _ (List.mem_append_right _ (List.mem_append_right _ (List.mem_append_right _ (List.mem_append_right _ (List.mem_append_left _ h1))))), hg⟩
theorem gk_6 {w : Cond} (i : Nat) (h : tables_1_6[i]? = some w) (hg : goodWord w = true) : w ∈ gtb := by
  have h1 : w ∈ tables_1_6 := List.mem_of_getElem? h
  exact List.mem_filter.mpr ⟨List.mem_append_right _ (List.mem_append_right _ (List.mem_append_right _ (List.mem_append_right _ (List.mem_append_right _ (List.mem_append_right _ (List.mem_append_left _ h1)))))), hg⟩
theorem gk_7 {w : Cond} (i : Nat) (h : tables_1_7[i]? = some w) (hg : goodWord w = true) : w ∈ gtb := by
  have h1 : w ∈ tables_1_7 := List.mem_of_getElem? h
  exact List.mem_filter.mpr ⟨List.mem_append_right _ (List.mem_append_right _ (List.mem_append_right _ (List.mem_append_right _ (List.mem_append_right _ (List.mem_append_right _ (List.mem_append_right _ (List.mem_append_left _ h1))))))), hg⟩
theorem gk_8 {w : Cond} (i : Nat) (h : tables_1_8[i]? = some w) (hg : goodWord w = true) : w ∈ gtb := by
  have h1 : w ∈ tables_1_8 := List.mem_of_getElem? h
  exact List.mem_filter.mpr ⟨List.mem_append_right _ (List.mem_append_right _ (List.mem_append_right _ (List.mem_append_right _ (List.mem_append_right _ (List.mem_append_right _ (List.mem_append_right _ (List.mem_append_right _ (h1)))))))), hg⟩
theorem gp_1 {y : MethodName} {n : Nat} (i : Nat) (h : lw_privs_1[i]? = some (y, n)) (hg : goodWord (Cond.selects y.cls y y) = true) : Cond.selects y.cls y y ∈ gtb := by
  have h1 : (y, n) ∈ lw_privs_1 := List.mem_of_getElem? h
  have h2 : (y, n) ∈ lw_privs := List.mem_append_left _ h1
  exact List.mem_filter.mpr ⟨List.mem_append_left _ (List.mem_map.mpr ⟨(y, n), h2, rfl⟩), hg⟩
theorem gp_2 {y : MethodName} {n : Nat} (i : Nat) (h : lw_privs_2[i]? = some (y, n)) (hg : goodWord (Cond.selects y.cls y y) = true) : Cond.selects y.cls y y ∈ gtb := by
  have h1 : (y, n) ∈ lw_privs_2 := List.mem_of_getElem? h
  have h2 : (y, n) ∈ lw_privs := List.mem_append_right _ (List.mem_append_left _ h1)
  exact List.mem_filter.mpr ⟨List.mem_append_left _ (List.mem_map.mpr ⟨(y, n), h2, rfl⟩), hg⟩
theorem gp_3 {y : MethodName} {n : Nat} (i : Nat) (h : lw_privs_3[i]? = some (y, n)) (hg : goodWord (Cond.selects y.cls y y) = true) : Cond.selects y.cls y y ∈ gtb := by
  have h1 : (y, n) ∈ lw_privs_3 := List.mem_of_getElem? h
  have h2 : (y, n) ∈ lw_privs := List.mem_append_right _ (List.mem_append_right _ (List.mem_append_left _ h1))
  exact List.mem_filter.mpr ⟨List.mem_append_left _ (List.mem_map.mpr ⟨(y, n), h2, rfl⟩), hg⟩
theorem gp_4 {y : MethodName} {n : Nat} (i : Nat) (h : lw_privs_4[i]? = some (y, n)) (hg : goodWord (Cond.selects y.cls y y) = true) : Cond.selects y.cls y y ∈ gtb := by
  have h1 : (y, n) ∈ lw_privs_4 := List.mem_of_getElem? h
  have h2 : (y, n) ∈ lw_privs := List.mem_append_right _ (List.mem_append_right _ (List.mem_append_right _ (List.mem_append_left _ h1)))
  exact List.mem_filter.mpr ⟨List.mem_append_left _ (List.mem_map.mpr ⟨(y, n), h2, rfl⟩), hg⟩
theorem gp_5 {y : MethodName} {n : Nat} (i : Nat) (h : lw_privs_5[i]? = some (y, n)) (hg : goodWord (Cond.selects y.cls y y) = true) : Cond.selects y.cls y y ∈ gtb := by
  have h1 : (y, n) ∈ lw_privs_5 := List.mem_of_getElem? h
  have h2 : (y, n) ∈ lw_privs := List.mem_append_right _ (List.mem_append_right _ (List.mem_append_right _ (List.mem_append_right _ (List.mem_append_left _ h1))))
  exact List.mem_filter.mpr ⟨List.mem_append_left _ (List.mem_map.mpr ⟨(y, n), h2, rfl⟩), hg⟩
theorem gp_6 {y : MethodName} {n : Nat} (i : Nat) (h : lw_privs_6[i]? = some (y, n)) (hg : goodWord (Cond.selects y.cls y y) = true) : Cond.selects y.cls y y ∈ gtb := by
  have h1 : (y, n) ∈ lw_privs_6 := List.mem_of_getElem? h
  have h2 : (y, n) ∈ lw_privs := List.mem_append_right _ (List.mem_append_right _ (List.mem_append_right _ (List.mem_append_right _ (List.mem_append_right _ (List.mem_append_left _ h1)))))
  exact List.mem_filter.mpr ⟨List.mem_append_left _ (List.mem_map.mpr ⟨(y, n), h2, rfl⟩), hg⟩
theorem gp_7 {y : MethodName} {n : Nat} (i : Nat) (h : lw_privs_7[i]? = some (y, n)) (hg : goodWord (Cond.selects y.cls y y) = true) : Cond.selects y.cls y y ∈ gtb := by
  have h1 : (y, n) ∈ lw_privs_7 := List.mem_of_getElem? h
  have h2 : (y, n) ∈ lw_privs := List.mem_append_right _ (List.mem_append_right _ (List.mem_append_right _ (List.mem_append_right _ (List.mem_append_right _ (List.mem_append_right _ (h1))))))
  exact List.mem_filter.mpr ⟨List.mem_append_left _ (List.mem_map.mpr ⟨(y, n), h2, rfl⟩), hg⟩
theorem kok_js_15 : KOK RJ0 (15, (4, vN)) := gk_8 121 rfl rfl
theorem kok_js_38 : KOK RJ0 (38, (3, vI 1)) := ⟨"java/lang/String", "COMPACT_STRINGS", "Z", List.mem_of_getElem? (i := 4) rfl, gk_3 56 rfl rfl⟩
theorem kok_js_9 : KOK RJ0 (9, (5, vN)) := gk_8 120 rfl rfl
theorem kok_js_1053 : KOK RJ0 (1053, (3, vC 5)) := ⟨"jdk/internal/util/Preconditions", "SIOOBE_FORMATTER", "Ljava/util/function/BiFunction;", List.mem_of_getElem? (i := 5) rfl, gk_3 72 rfl rfl⟩
theorem kok_ji_265 : KOK RJ6 (265, (0, vI (1431655765))) := ⟨_, rfl, gk_4 196 rfl rfl⟩
theorem kok_ji_266 : KOK RJ6 (266, (0, vI (858993459))) := ⟨_, rfl, gk_4 197 rfl rfl⟩
theorem kok_ji_267 : KOK RJ6 (267, (0, vI (252645135))) := ⟨_, rfl, gk_4 198 rfl rfl⟩
theorem fok_fm_44 : FOK RX0 (44, (5, 12)) := ⟨_, _, _, rfl, by decide, gk_1 106 rfl rfl⟩
theorem fok_fm_47 : FOK RX0 (47, (5, 11)) := ⟨_, _, _, rfl, by decide, gk_1 103 rfl rfl⟩
theorem fok_fm_50 : FOK RX0 (50, (5, 13)) := ⟨_, _, _, rfl, by decide, gk_1 109 rfl rfl⟩
theorem fok_fm_11 : FOK RX0 (11, (0, 0)) := ⟨_, _, _, rfl, by decide, gk_2 111 rfl rfl⟩
theorem fok_fm_26 : FOK RX0 (26, (5, 14)) := ⟨_, _, _, rfl, by decide, gk_1 111 rfl rfl⟩
theorem kok_fm_38 : KOK RX0 (38, (6, vN)) := ⟨gk_5 61 rfl rfl, gk_4 49 rfl rfl, gk_1 18 rfl rfl, gk_4 50 rfl rfl⟩
theorem fok_fm_53 : FOK RX0 (53, (7, 6)) := ⟨_, _, _, rfl, by decide, gk_1 217 rfl rfl⟩
theorem fok_fm_22 : FOK RX0 (22, (0, 2)) := ⟨_, _, _, rfl, by decide, gk_2 113 rfl rfl⟩
theorem fok_fm_84 : FOK RX0 (84, (7, 4)) := ⟨_, _, _, rfl, by decide, gk_1 212 rfl rfl⟩
theorem fok_fm_19 : FOK RX0 (19, (0, 1)) := ⟨_, _, _, rfl, by decide, gk_2 112 rfl rfl⟩
theorem fok_fm_56 : FOK RX0 (56, (7, 0)) := ⟨_, _, _, rfl, by decide, gk_1 202 rfl rfl⟩
theorem fok_fm_81 : FOK RX0 (81, (5, 16)) := ⟨_, _, _, rfl, by decide, gk_1 119 rfl rfl⟩
theorem fok_fm_60 : FOK RX0 (60, (7, 3)) := ⟨_, _, _, rfl, by decide, gk_1 209 rfl rfl⟩
theorem fok_fm_67 : FOK RX0 (67, (7, 2)) := ⟨_, _, _, rfl, by decide, gk_1 206 rfl rfl⟩
theorem fok_fm_70 : FOK RX0 (70, (5, 15)) := ⟨_, _, _, rfl, by decide, gk_1 116 rfl rfl⟩
theorem fok_kp_11 : FOK RX1 (11, (1, 0)) := ⟨_, _, _, rfl, by decide, gk_2 127 rfl rfl⟩
theorem fok_kp_18 : FOK RX1 (18, (9, 1)) := ⟨_, _, _, rfl, by decide, gk_1 165 rfl rfl⟩
theorem fok_kp_44 : FOK RX1 (44, (9, 0)) := ⟨_, _, _, rfl, by decide, gk_1 162 rfl rfl⟩
theorem fok_kp_15 : FOK RX1 (15, (1, 1)) := ⟨_, _, _, rfl, by decide, gk_2 128 rfl rfl⟩
theorem kok_kp_53 : KOK RX1 (53, (7, vN)) := ⟨gk_4 199 rfl rfl, gk_4 178 rfl rfl, gk_1 18 rfl rfl, gk_4 179 rfl rfl⟩
theorem fok_kp_59 : FOK RX1 (59, (1, 2)) := ⟨_, _, _, rfl, by decide, gk_2 129 rfl rfl⟩
theorem fok_kp_62 : FOK RX1 (62, (1, 3)) := ⟨_, _, _, rfl, by decide, gk_2 131 rfl rfl⟩
theorem fok_kp_63 : FOK RX1 (63, (1, 4)) := ⟨_, _, _, rfl, by decide, gk_2 133 rfl rfl⟩
theorem kok_kp_26 : KOK RX1 (26, (0, vI (1000000))) := ⟨_, rfl, gk_4 188 rfl rfl⟩
theorem fok_kp_27 : FOK RX1 (27, (5, 4)) := ⟨_, _, _, rfl, by decide, gk_1 79 rfl rfl⟩
theorem fok_kp_32 : FOK RX1 (32, (5, 0)) := ⟨_, _, _, rfl, by decide, gk_1 61 rfl rfl⟩
theorem fok_kp_33 : FOK RX1 (33, (5, 8)) := ⟨_, _, _, rfl, by decide, gk_1 91 rfl rfl⟩
theorem fok_ru_34 : FOK RX2 (34, (2, 1)) := ⟨_, _, _, rfl, by decide, gk_2 58 rfl rfl⟩
theorem fok_ru_38 : FOK RX2 (38, (2, 6)) := ⟨_, _, _, rfl, by decide, gk_2 63 rfl rfl⟩
theorem fok_ru_11 : FOK RX2 (11, (2, 0)) := ⟨_, _, _, rfl, by decide, gk_2 57 rfl rfl⟩
theorem fok_ru_17 : FOK RX2 (17, (2, 2)) := ⟨_, _, _, rfl, by decide, gk_2 59 rfl rfl⟩
theorem fok_ru_21 : FOK RX2 (21, (2, 3)) := ⟨_, _, _, rfl, by decide, gk_2 60 rfl rfl⟩
theorem fok_ru_24 : FOK RX2 (24, (2, 4)) := ⟨_, _, _, rfl, by decide, gk_2 61 rfl rfl⟩
theorem fok_ru_27 : FOK RX2 (27, (2, 5)) := ⟨_, _, _, rfl, by decide, gk_2 62 rfl rfl⟩
theorem fok_ru_30 : FOK RX2 (30, (2, 7)) := ⟨_, _, _, rfl, by decide, gk_2 64 rfl rfl⟩
theorem fok_tx_19 : FOK RX8 (19, (8, 2)) := ⟨_, _, _, rfl, by decide, gk_1 39 rfl rfl⟩
theorem fok_tx_15 : FOK RX8 (15, (8, 1)) := ⟨_, _, _, rfl, by decide, gk_1 36 rfl rfl⟩
theorem fok_tx_11 : FOK RX8 (11, (8, 0)) := ⟨_, _, _, rfl, by decide, gk_1 34 rfl rfl⟩
theorem fok_rr_29 : FOK RX3 (29, (8, 2)) := ⟨_, _, _, rfl, by decide, gk_1 37 rfl rfl⟩
theorem kok_rr_120 : KOK RX3 (120, (2, vC 14)) := ⟨"not", 14, rfl, List.mem_of_getElem? (i := 4) rfl⟩
theorem fok_rr_82 : FOK RX3 (82, (3, 4)) := ⟨_, _, _, rfl, by decide, gk_2 87 rfl rfl⟩
theorem fok_rr_18 : FOK RX3 (18, (3, 3)) := ⟨_, _, _, rfl, by decide, gk_2 86 rfl rfl⟩
theorem fok_rr_88 : FOK RX3 (88, (3, 6)) := ⟨_, _, _, rfl, by decide, gk_2 89 rfl rfl⟩
theorem fok_rr_85 : FOK RX3 (85, (3, 5)) := ⟨_, _, _, rfl, by decide, gk_2 88 rfl rfl⟩
theorem kok_tx_31 : KOK RX8 (31, (0, vI (100000))) := ⟨_, rfl, gk_3 107 rfl rfl⟩
theorem fok_rr_25 : FOK RX3 (25, (3, 1)) := ⟨_, _, _, rfl, by decide, gk_2 84 rfl rfl⟩
theorem fok_rr_12 : FOK RX3 (12, (3, 0)) := ⟨_, _, _, rfl, by decide, gk_2 82 rfl rfl⟩
theorem kok_rr_134 : KOK RX3 (134, (2, vC 16)) := ⟨"left order rest flaws width lot stripe bale day", 16, rfl, List.mem_of_getElem? (i := 5) rfl⟩
theorem kok_rr_136 : KOK RX3 (136, (0, vI (100000))) := ⟨_, rfl, gk_3 210 rfl rfl⟩
theorem fok_rr_97 : FOK RX3 (97, (3, 2)) := ⟨_, _, _, rfl, by decide, gk_2 85 rfl rfl⟩
theorem kok_rr_108 : KOK RX3 (108, (2, vC 18)) := ⟨"and or", 18, rfl, List.mem_of_getElem? (i := 3) rfl⟩
theorem kok_rr_52 : KOK RX3 (52, (2, vC 12)) := ⟨"from give", 12, rfl, List.mem_of_getElem? (i := 1) rfl⟩
theorem kok_rr_72 : KOK RX3 (72, (2, vC 20)) := ⟨"if", 20, rfl, List.mem_of_getElem? (i := 2) rfl⟩
theorem fok_sp_44 : FOK RX4 (44, (9, 4)) := ⟨_, _, _, rfl, by decide, gk_1 174 rfl rfl⟩
theorem fok_sp_17 : FOK RX4 (17, (4, 1)) := ⟨_, _, _, rfl, by decide, gk_2 190 rfl rfl⟩
theorem fok_sp_50 : FOK RX4 (50, (9, 3)) := ⟨_, _, _, rfl, by decide, gk_1 171 rfl rfl⟩
theorem fok_sp_13 : FOK RX4 (13, (4, 0)) := ⟨_, _, _, rfl, by decide, gk_2 189 rfl rfl⟩
theorem kok_sp_47 : KOK RX4 (47, (7, vN)) := ⟨gk_5 111 rfl rfl, gk_4 178 rfl rfl, gk_1 18 rfl rfl, gk_4 179 rfl rfl⟩
theorem fok_sp_31 : FOK RX4 (31, (9, 5)) := ⟨_, _, _, rfl, by decide, gk_1 177 rfl rfl⟩
theorem kok_sp_38 : KOK RX4 (38, (6, vN)) := ⟨gk_5 112 rfl rfl, gk_4 49 rfl rfl, gk_1 18 rfl rfl, gk_4 50 rfl rfl⟩
theorem fok_sp_25 : FOK RX4 (25, (4, 2)) := ⟨_, _, _, rfl, by decide, gk_2 191 rfl rfl⟩
theorem fok_sp_28 : FOK RX4 (28, (4, 3)) := ⟨_, _, _, rfl, by decide, gk_2 193 rfl rfl⟩
theorem fok_sh_39 : FOK RX5 (39, (5, 4)) := ⟨_, _, _, rfl, by decide, gk_1 78 rfl rfl⟩
theorem fok_sh_43 : FOK RX5 (43, (5, 7)) := ⟨_, _, _, rfl, by decide, gk_1 88 rfl rfl⟩
theorem fok_sh_46 : FOK RX5 (46, (5, 8)) := ⟨_, _, _, rfl, by decide, gk_1 90 rfl rfl⟩
theorem fok_sh_49 : FOK RX5 (49, (5, 9)) := ⟨_, _, _, rfl, by decide, gk_1 96 rfl rfl⟩
theorem fok_sh_52 : FOK RX5 (52, (5, 10)) := ⟨_, _, _, rfl, by decide, gk_1 99 rfl rfl⟩
theorem fok_sh_55 : FOK RX5 (55, (5, 14)) := ⟨_, _, _, rfl, by decide, gk_1 112 rfl rfl⟩
theorem fok_sh_58 : FOK RX5 (58, (5, 15)) := ⟨_, _, _, rfl, by decide, gk_1 114 rfl rfl⟩
theorem fok_sh_61 : FOK RX5 (61, (5, 16)) := ⟨_, _, _, rfl, by decide, gk_1 117 rfl rfl⟩
theorem fok_sh_11 : FOK RX5 (11, (5, 0)) := ⟨_, _, _, rfl, by decide, gk_1 60 rfl rfl⟩
theorem fok_sh_15 : FOK RX5 (15, (5, 1)) := ⟨_, _, _, rfl, by decide, gk_1 66 rfl rfl⟩
theorem fok_sh_18 : FOK RX5 (18, (5, 2)) := ⟨_, _, _, rfl, by decide, gk_1 70 rfl rfl⟩
theorem fok_sh_21 : FOK RX5 (21, (5, 3)) := ⟨_, _, _, rfl, by decide, gk_1 74 rfl rfl⟩
theorem fok_sh_24 : FOK RX5 (24, (5, 5)) := ⟨_, _, _, rfl, by decide, gk_1 84 rfl rfl⟩
theorem fok_sh_27 : FOK RX5 (27, (5, 6)) := ⟨_, _, _, rfl, by decide, gk_1 86 rfl rfl⟩
theorem fok_sh_30 : FOK RX5 (30, (5, 11)) := ⟨_, _, _, rfl, by decide, gk_1 102 rfl rfl⟩
theorem fok_sh_33 : FOK RX5 (33, (5, 12)) := ⟨_, _, _, rfl, by decide, gk_1 105 rfl rfl⟩
theorem fok_sh_36 : FOK RX5 (36, (5, 13)) := ⟨_, _, _, rfl, by decide, gk_1 108 rfl rfl⟩
theorem kok_sh_64 : KOK RX5 (64, (6, vN)) := ⟨gk_4 48 rfl rfl, gk_4 49 rfl rfl, gk_1 18 rfl rfl, gk_4 50 rfl rfl⟩
theorem fok_sr_12 : FOK RX6 (12, (6, 0)) := ⟨_, _, _, rfl, by decide, gk_2 33 rfl rfl⟩
theorem fok_sr_45 : FOK RX6 (45, (5, 4)) := ⟨_, _, _, rfl, by decide, gk_1 80 rfl rfl⟩
theorem fok_sr_18 : FOK RX6 (18, (6, 1)) := ⟨_, _, _, rfl, by decide, gk_2 35 rfl rfl⟩
theorem fok_sr_87 : FOK RX6 (87, (5, 0)) := ⟨_, _, _, rfl, by decide, gk_1 63 rfl rfl⟩
theorem kok_sr_80 : KOK RX6 (80, (3, vC 4)) := ⟨"ClothEnds$ShopReader", "MOST", "[I", List.mem_of_getElem? (i := 3) rfl, gk_3 114 rfl rfl⟩
theorem fok_sr_90 : FOK RX6 (90, (5, 1)) := ⟨_, _, _, rfl, by decide, gk_1 67 rfl rfl⟩
theorem fok_sr_93 : FOK RX6 (93, (5, 2)) := ⟨_, _, _, rfl, by decide, gk_1 71 rfl rfl⟩
theorem fok_sr_96 : FOK RX6 (96, (5, 3)) := ⟨_, _, _, rfl, by decide, gk_1 75 rfl rfl⟩
theorem fok_sr_99 : FOK RX6 (99, (5, 5)) := ⟨_, _, _, rfl, by decide, gk_1 85 rfl rfl⟩
theorem fok_sr_102 : FOK RX6 (102, (5, 6)) := ⟨_, _, _, rfl, by decide, gk_1 87 rfl rfl⟩
theorem fok_sr_105 : FOK RX6 (105, (5, 7)) := ⟨_, _, _, rfl, by decide, gk_1 89 rfl rfl⟩
theorem fok_sr_108 : FOK RX6 (108, (5, 8)) := ⟨_, _, _, rfl, by decide, gk_1 93 rfl rfl⟩
theorem fok_sr_111 : FOK RX6 (111, (5, 9)) := ⟨_, _, _, rfl, by decide, gk_1 97 rfl rfl⟩
theorem fok_sr_114 : FOK RX6 (114, (5, 10)) := ⟨_, _, _, rfl, by decide, gk_1 100 rfl rfl⟩
theorem fok_sr_117 : FOK RX6 (117, (5, 11)) := ⟨_, _, _, rfl, by decide, gk_1 104 rfl rfl⟩
theorem fok_sr_120 : FOK RX6 (120, (5, 12)) := ⟨_, _, _, rfl, by decide, gk_1 107 rfl rfl⟩
theorem fok_sr_123 : FOK RX6 (123, (5, 13)) := ⟨_, _, _, rfl, by decide, gk_1 110 rfl rfl⟩
theorem fok_sr_126 : FOK RX6 (126, (5, 14)) := ⟨_, _, _, rfl, by decide, gk_1 113 rfl rfl⟩
theorem fok_sr_129 : FOK RX6 (129, (5, 15)) := ⟨_, _, _, rfl, by decide, gk_1 115 rfl rfl⟩
theorem fok_sr_132 : FOK RX6 (132, (5, 16)) := ⟨_, _, _, rfl, by decide, gk_1 118 rfl rfl⟩
theorem fok_sr_22 : FOK RX6 (22, (6, 2)) := ⟨_, _, _, rfl, by decide, gk_2 36 rfl rfl⟩
theorem kok_sr_55 : KOK RX6 (55, (2, vC 10)) := ⟨"bale flaw thumb askew board form pair", 10, rfl, List.mem_of_getElem? (i := 0) rfl⟩
theorem kok_sr_61 : KOK RX6 (61, (3, vC 1)) := ⟨"ClothEnds$ShopReader", "MOST_TOLD", "[I", List.mem_of_getElem? (i := 0) rfl, gk_3 99 rfl rfl⟩
theorem kok_sr_64 : KOK RX6 (64, (3, vC 2)) := ⟨"ClothEnds$ShopReader", "NUMBERS", "[I", List.mem_of_getElem? (i := 1) rfl, gk_3 101 rfl rfl⟩
theorem kok_sr_70 : KOK RX6 (70, (3, vC 3)) := ⟨"ClothEnds$ShopReader", "LEAST", "[I", List.mem_of_getElem? (i := 2) rfl, gk_3 108 rfl rfl⟩
theorem fok_sr_28 : FOK RX6 (28, (8, 2)) := ⟨_, _, _, rfl, by decide, gk_1 38 rfl rfl⟩
theorem fok_td_25 : FOK RX9 (25, (9, 1)) := ⟨_, _, _, rfl, by decide, gk_1 164 rfl rfl⟩
theorem fok_td_29 : FOK RX9 (29, (9, 5)) := ⟨_, _, _, rfl, by decide, gk_1 176 rfl rfl⟩
theorem fok_td_35 : FOK RX9 (35, (9, 7)) := ⟨_, _, _, rfl, by decide, gk_1 181 rfl rfl⟩
theorem fok_td_9 : FOK RX9 (9, (9, 0)) := ⟨_, _, _, rfl, by decide, gk_1 161 rfl rfl⟩
theorem fok_td_13 : FOK RX9 (13, (9, 2)) := ⟨_, _, _, rfl, by decide, gk_1 167 rfl rfl⟩
theorem fok_td_16 : FOK RX9 (16, (9, 3)) := ⟨_, _, _, rfl, by decide, gk_1 170 rfl rfl⟩
theorem fok_td_19 : FOK RX9 (19, (9, 4)) := ⟨_, _, _, rfl, by decide, gk_1 173 rfl rfl⟩
theorem fok_td_22 : FOK RX9 (22, (9, 6)) := ⟨_, _, _, rfl, by decide, gk_1 179 rfl rfl⟩
theorem fok_sd_12 : FOK RX7 (12, (7, 0)) := ⟨_, _, _, rfl, by decide, gk_1 200 rfl rfl⟩
theorem fok_sd_21 : FOK RX7 (21, (7, 1)) := ⟨_, _, _, rfl, by decide, gk_1 203 rfl rfl⟩
theorem fok_sd_25 : FOK RX7 (25, (7, 2)) := ⟨_, _, _, rfl, by decide, gk_1 205 rfl rfl⟩
theorem fok_sd_29 : FOK RX7 (29, (7, 3)) := ⟨_, _, _, rfl, by decide, gk_1 208 rfl rfl⟩
theorem fok_sd_32 : FOK RX7 (32, (7, 4)) := ⟨_, _, _, rfl, by decide, gk_1 211 rfl rfl⟩
theorem fok_sd_35 : FOK RX7 (35, (7, 5)) := ⟨_, _, _, rfl, by decide, gk_1 214 rfl rfl⟩
theorem fok_sd_51 : FOK RX7 (51, (7, 6)) := ⟨_, _, _, rfl, by decide, gk_1 216 rfl rfl⟩
theorem fok_sd_55 : FOK RX7 (55, (7, 7)) := ⟨_, _, _, rfl, by decide, gk_1 219 rfl rfl⟩
theorem fok_sd_58 : FOK RX7 (58, (7, 8)) := ⟨_, _, _, rfl, by decide, gk_1 221 rfl rfl⟩
theorem fok_sd_61 : FOK RX7 (61, (7, 9)) := ⟨_, _, _, rfl, by decide, gk_1 223 rfl rfl⟩
theorem fok_sd_64 : FOK RX7 (64, (7, 10)) := ⟨_, _, _, rfl, by decide, gk_1 225 rfl rfl⟩
theorem fok_sd_67 : FOK RX7 (67, (7, 11)) := ⟨_, _, _, rfl, by decide, gk_1 227 rfl rfl⟩
theorem fok_sd_70 : FOK RX7 (70, (7, 12)) := ⟨_, _, _, rfl, by decide, gk_1 229 rfl rfl⟩
theorem fok_sd_79 : FOK RX7 (79, (5, 0)) := ⟨_, _, _, rfl, by decide, gk_1 64 rfl rfl⟩
theorem fok_sd_82 : FOK RX7 (82, (5, 1)) := ⟨_, _, _, rfl, by decide, gk_1 68 rfl rfl⟩
theorem fok_sd_85 : FOK RX7 (85, (5, 2)) := ⟨_, _, _, rfl, by decide, gk_1 72 rfl rfl⟩
theorem fok_sd_40 : FOK RX7 (40, (7, 13)) := ⟨_, _, _, rfl, by decide, gk_1 231 rfl rfl⟩
theorem fok_sd_111 : FOK RX7 (111, (5, 8)) := ⟨_, _, _, rfl, by decide, gk_1 95 rfl rfl⟩
theorem fok_sd_132 : FOK RX7 (132, (5, 3)) := ⟨_, _, _, rfl, by decide, gk_1 77 rfl rfl⟩
theorem fok_sd_121 : FOK RX7 (121, (5, 4)) := ⟨_, _, _, rfl, by decide, gk_1 83 rfl rfl⟩
theorem kok_sd_142 : KOK RX7 (142, (1, vL (1103515245))) := ⟨_, rfl, gk_4 143 rfl rfl⟩
theorem kok_sd_144 : KOK RX7 (144, (1, vL (12345))) := ⟨_, rfl, gk_4 144 rfl rfl⟩
theorem kok_sd_146 : KOK RX7 (146, (1, vL (2147483648))) := ⟨_, rfl, gk_4 145 rfl rfl⟩
theorem kok_sd_148 : KOK RX7 (148, (0, vI (65536))) := ⟨_, rfl, gk_4 146 rfl rfl⟩
theorem fok_wp_38 : FOK RX10 (38, (5, 8)) := ⟨_, _, _, rfl, by decide, gk_1 92 rfl rfl⟩
theorem fok_wp_44 : FOK RX10 (44, (10, 2)) := ⟨_, _, _, rfl, by decide, gk_2 154 rfl rfl⟩
theorem fok_wp_11 : FOK RX10 (11, (10, 0)) := ⟨_, _, _, rfl, by decide, gk_2 152 rfl rfl⟩
theorem fok_wp_15 : FOK RX10 (15, (10, 1)) := ⟨_, _, _, rfl, by decide, gk_2 153 rfl rfl⟩
theorem fok_wp_45 : FOK RX10 (45, (5, 4)) := ⟨_, _, _, rfl, by decide, gk_1 81 rfl rfl⟩
theorem fok_wp_47 : FOK RX10 (47, (5, 0)) := ⟨_, _, _, rfl, by decide, gk_1 62 rfl rfl⟩
theorem fok_wp_23 : FOK RX10 (23, (10, 4)) := ⟨_, _, _, rfl, by decide, gk_2 156 rfl rfl⟩
theorem fok_wp_20 : FOK RX10 (20, (10, 3)) := ⟨_, _, _, rfl, by decide, gk_2 155 rfl rfl⟩
theorem fok_wp_50 : FOK RX10 (50, (9, 2)) := ⟨_, _, _, rfl, by decide, gk_1 168 rfl rfl⟩
theorem fok_wp_27 : FOK RX10 (27, (10, 5)) := ⟨_, _, _, rfl, by decide, gk_2 157 rfl rfl⟩
theorem kok_wp_78 : KOK RX10 (78, (6, vN)) := ⟨gk_4 238 rfl rfl, gk_4 49 rfl rfl, gk_1 18 rfl rfl, gk_4 50 rfl rfl⟩
theorem kok_wp_83 : KOK RX10 (83, (7, vN)) := ⟨gk_5 2 rfl rfl, gk_4 178 rfl rfl, gk_1 18 rfl rfl, gk_4 179 rfl rfl⟩
theorem kok_wp_86 : KOK RX10 (86, (8, vN)) := ⟨gk_5 3 rfl rfl, gk_5 4 rfl rfl, gk_1 18 rfl rfl, gk_5 5 rfl rfl⟩
theorem fok_wp_68 : FOK RX10 (68, (10, 8)) := ⟨_, _, _, rfl, by decide, gk_2 162 rfl rfl⟩
theorem fok_wp_56 : FOK RX10 (56, (10, 7)) := ⟨_, _, _, rfl, by decide, gk_2 160 rfl rfl⟩
theorem fok_wp_51 : FOK RX10 (51, (10, 6)) := ⟨_, _, _, rfl, by decide, gk_2 158 rfl rfl⟩
theorem kok_wp_54 : KOK RX10 (54, (1, vL (-1))) := ⟨_, rfl, gk_4 229 rfl rfl⟩
theorem fok_ce_10 : FOK RX11 (10, (11, 0)) := ⟨_, _, _, rfl, by decide, gk_2 205 rfl rfl⟩
theorem fok_ce_87 : FOK RX11 (87, (8, 1)) := ⟨_, _, _, rfl, by decide, gk_1 35 rfl rfl⟩
theorem fok_ce_47 : FOK RX11 (47, (11, 8)) := ⟨_, _, _, rfl, by decide, gk_2 213 rfl rfl⟩
theorem fok_ce_19 : FOK RX11 (19, (11, 1)) := ⟨_, _, _, rfl, by decide, gk_2 206 rfl rfl⟩
theorem fok_ce_103 : FOK RX11 (103, (6, 0)) := ⟨_, _, _, rfl, by decide, gk_2 34 rfl rfl⟩
theorem fok_ce_111 : FOK RX11 (111, (7, 0)) := ⟨_, _, _, rfl, by decide, gk_1 201 rfl rfl⟩
theorem fok_ce_114 : FOK RX11 (114, (5, 4)) := ⟨_, _, _, rfl, by decide, gk_1 82 rfl rfl⟩
theorem fok_ce_119 : FOK RX11 (119, (11, 6)) := ⟨_, _, _, rfl, by decide, gk_2 211 rfl rfl⟩
theorem fok_ce_54 : FOK RX11 (54, (11, 9)) := ⟨_, _, _, rfl, by decide, gk_2 214 rfl rfl⟩
theorem fok_ce_36 : FOK RX11 (36, (11, 5)) := ⟨_, _, _, rfl, by decide, gk_2 210 rfl rfl⟩
theorem fok_ce_123 : FOK RX11 (123, (3, 0)) := ⟨_, _, _, rfl, by decide, gk_2 83 rfl rfl⟩
theorem fok_ce_134 : FOK RX11 (134, (5, 0)) := ⟨_, _, _, rfl, by decide, gk_1 65 rfl rfl⟩
theorem fok_ce_137 : FOK RX11 (137, (5, 1)) := ⟨_, _, _, rfl, by decide, gk_1 69 rfl rfl⟩
theorem fok_ce_140 : FOK RX11 (140, (5, 2)) := ⟨_, _, _, rfl, by decide, gk_1 73 rfl rfl⟩
theorem fok_ce_143 : FOK RX11 (143, (5, 3)) := ⟨_, _, _, rfl, by decide, gk_1 76 rfl rfl⟩
theorem fok_ce_40 : FOK RX11 (40, (11, 7)) := ⟨_, _, _, rfl, by decide, gk_2 212 rfl rfl⟩
theorem fok_ce_157 : FOK RX11 (157, (5, 8)) := ⟨_, _, _, rfl, by decide, gk_1 94 rfl rfl⟩
theorem fok_ce_164 : FOK RX11 (164, (5, 9)) := ⟨_, _, _, rfl, by decide, gk_1 98 rfl rfl⟩
theorem fok_ce_170 : FOK RX11 (170, (7, 6)) := ⟨_, _, _, rfl, by decide, gk_1 218 rfl rfl⟩
theorem fok_ce_177 : FOK RX11 (177, (7, 2)) := ⟨_, _, _, rfl, by decide, gk_1 207 rfl rfl⟩
theorem fok_ce_180 : FOK RX11 (180, (7, 3)) := ⟨_, _, _, rfl, by decide, gk_1 210 rfl rfl⟩
theorem fok_ce_183 : FOK RX11 (183, (7, 4)) := ⟨_, _, _, rfl, by decide, gk_1 213 rfl rfl⟩
theorem fok_ce_186 : FOK RX11 (186, (7, 5)) := ⟨_, _, _, rfl, by decide, gk_1 215 rfl rfl⟩
theorem fok_ce_203 : FOK RX11 (203, (7, 11)) := ⟨_, _, _, rfl, by decide, gk_1 228 rfl rfl⟩
theorem fok_ce_206 : FOK RX11 (206, (7, 7)) := ⟨_, _, _, rfl, by decide, gk_1 220 rfl rfl⟩
theorem fok_ce_209 : FOK RX11 (209, (7, 10)) := ⟨_, _, _, rfl, by decide, gk_1 226 rfl rfl⟩
theorem fok_ce_23 : FOK RX11 (23, (11, 2)) := ⟨_, _, _, rfl, by decide, gk_2 207 rfl rfl⟩
theorem fok_ce_222 : FOK RX11 (222, (7, 8)) := ⟨_, _, _, rfl, by decide, gk_1 222 rfl rfl⟩
theorem fok_ce_225 : FOK RX11 (225, (7, 9)) := ⟨_, _, _, rfl, by decide, gk_1 224 rfl rfl⟩
theorem fok_ce_232 : FOK RX11 (232, (7, 1)) := ⟨_, _, _, rfl, by decide, gk_1 204 rfl rfl⟩
theorem fok_ce_236 : FOK RX11 (236, (9, 1)) := ⟨_, _, _, rfl, by decide, gk_1 166 rfl rfl⟩
theorem fok_ce_241 : FOK RX11 (241, (9, 0)) := ⟨_, _, _, rfl, by decide, gk_1 163 rfl rfl⟩
theorem fok_ce_68 : FOK RX11 (68, (11, 11)) := ⟨_, _, _, rfl, by decide, gk_2 216 rfl rfl⟩
theorem fok_ce_256 : FOK RX11 (256, (1, 2)) := ⟨_, _, _, rfl, by decide, gk_2 130 rfl rfl⟩
theorem fok_ce_257 : FOK RX11 (257, (1, 3)) := ⟨_, _, _, rfl, by decide, gk_2 132 rfl rfl⟩
theorem fok_ce_258 : FOK RX11 (258, (1, 4)) := ⟨_, _, _, rfl, by decide, gk_2 134 rfl rfl⟩
theorem kok_ce_247 : KOK RX11 (247, (7, vN)) := ⟨gk_4 177 rfl rfl, gk_4 178 rfl rfl, gk_1 18 rfl rfl, gk_4 179 rfl rfl⟩
theorem fok_ce_259 : FOK RX11 (259, (9, 2)) := ⟨_, _, _, rfl, by decide, gk_1 169 rfl rfl⟩
theorem fok_ce_75 : FOK RX11 (75, (11, 12)) := ⟨_, _, _, rfl, by decide, gk_2 217 rfl rfl⟩
theorem fok_ce_271 : FOK RX11 (271, (10, 6)) := ⟨_, _, _, rfl, by decide, gk_2 159 rfl rfl⟩
theorem fok_ce_274 : FOK RX11 (274, (10, 7)) := ⟨_, _, _, rfl, by decide, gk_2 161 rfl rfl⟩
theorem fok_ce_278 : FOK RX11 (278, (10, 8)) := ⟨_, _, _, rfl, by decide, gk_2 163 rfl rfl⟩
theorem kok_ce_266 : KOK RX11 (266, (1, vL (-2))) := ⟨_, rfl, gk_4 224 rfl rfl⟩
theorem fok_ce_61 : FOK RX11 (61, (11, 10)) := ⟨_, _, _, rfl, by decide, gk_2 215 rfl rfl⟩
theorem fok_ce_312 : FOK RX11 (312, (9, 5)) := ⟨_, _, _, rfl, by decide, gk_1 178 rfl rfl⟩
theorem fok_ce_315 : FOK RX11 (315, (9, 3)) := ⟨_, _, _, rfl, by decide, gk_1 172 rfl rfl⟩
theorem fok_ce_318 : FOK RX11 (318, (9, 4)) := ⟨_, _, _, rfl, by decide, gk_1 175 rfl rfl⟩
theorem fok_ce_82 : FOK RX11 (82, (11, 13)) := ⟨_, _, _, rfl, by decide, gk_2 218 rfl rfl⟩
theorem fok_ce_324 : FOK RX11 (324, (4, 2)) := ⟨_, _, _, rfl, by decide, gk_2 192 rfl rfl⟩
theorem fok_ce_327 : FOK RX11 (327, (4, 3)) := ⟨_, _, _, rfl, by decide, gk_2 194 rfl rfl⟩
theorem kok_ce_330 : KOK RX11 (330, (1, vL (450))) := ⟨_, rfl, gk_5 117 rfl rfl⟩
theorem kok_ce_332 : KOK RX11 (332, (1, vL (333))) := ⟨_, rfl, gk_5 118 rfl rfl⟩
theorem kok_ce_334 : KOK RX11 (334, (1, vL (106))) := ⟨_, rfl, gk_5 119 rfl rfl⟩
theorem kok_ce_336 : KOK RX11 (336, (1, vL (355))) := ⟨_, rfl, gk_5 120 rfl rfl⟩
theorem kok_ce_338 : KOK RX11 (338, (1, vL (113))) := ⟨_, rfl, gk_5 121 rfl rfl⟩
theorem fok_ce_343 : FOK RX11 (343, (9, 7)) := ⟨_, _, _, rfl, by decide, gk_1 182 rfl rfl⟩
theorem fok_ce_346 : FOK RX11 (346, (9, 6)) := ⟨_, _, _, rfl, by decide, gk_1 180 rfl rfl⟩
theorem fok_ce_349 : FOK RX11 (349, (7, 12)) := ⟨_, _, _, rfl, by decide, gk_1 230 rfl rfl⟩
theorem fok_ce_352 : FOK RX11 (352, (5, 10)) := ⟨_, _, _, rfl, by decide, gk_1 101 rfl rfl⟩
theorem fok_ce_26 : FOK RX11 (26, (11, 3)) := ⟨_, _, _, rfl, by decide, gk_2 208 rfl rfl⟩
theorem fok_ce_30 : FOK RX11 (30, (11, 4)) := ⟨_, _, _, rfl, by decide, gk_2 209 rfl rfl⟩
theorem fok_md_9 : FOK RX12 (9, (12, 1)) := ⟨_, _, _, rfl, by decide, gk_5 158 rfl rfl⟩
theorem fok_md_13 : FOK RX12 (13, (12, 2)) := ⟨_, _, _, rfl, by decide, gk_5 159 rfl rfl⟩
theorem fok_md_28 : FOK RX12 (28, (12, 7)) := ⟨_, _, _, rfl, by decide, gk_5 164 rfl rfl⟩
theorem fok_md_31 : FOK RX12 (31, (12, 8)) := ⟨_, _, _, rfl, by decide, gk_5 165 rfl rfl⟩
theorem fok_md_16 : FOK RX12 (16, (12, 3)) := ⟨_, _, _, rfl, by decide, gk_5 160 rfl rfl⟩
theorem fok_md_107 : FOK RX12 (107, (12, 43)) := ⟨_, _, _, rfl, by decide, gk_5 200 rfl rfl⟩
theorem fok_md_193 : FOK RX12 (193, (12, 32)) := ⟨_, _, _, rfl, by decide, gk_5 189 rfl rfl⟩
theorem kok_md_200 : KOK RX12 (200, (2, vC 40)) := ⟨"left", 40, rfl, List.mem_of_getElem? (i := 6) rfl⟩
theorem kok_md_201 : KOK RX12 (201, (2, vC 42)) := ⟨"order", 42, rfl, List.mem_of_getElem? (i := 7) rfl⟩
theorem kok_md_203 : KOK RX12 (203, (2, vC 44)) := ⟨"rest", 44, rfl, List.mem_of_getElem? (i := 8) rfl⟩
theorem kok_md_205 : KOK RX12 (205, (2, vC 46)) := ⟨"flaws", 46, rfl, List.mem_of_getElem? (i := 9) rfl⟩
theorem kok_md_207 : KOK RX12 (207, (2, vC 48)) := ⟨"width", 48, rfl, List.mem_of_getElem? (i := 10) rfl⟩
theorem kok_md_208 : KOK RX12 (208, (2, vC 50)) := ⟨"lot", 50, rfl, List.mem_of_getElem? (i := 11) rfl⟩
theorem kok_md_209 : KOK RX12 (209, (2, vC 52)) := ⟨"stripe", 52, rfl, List.mem_of_getElem? (i := 12) rfl⟩
theorem kok_md_210 : KOK RX12 (210, (2, vC 22)) := ⟨"bale", 22, rfl, List.mem_of_getElem? (i := 13) rfl⟩
theorem kok_md_212 : KOK RX12 (212, (2, vC 54)) := ⟨"day", 54, rfl, List.mem_of_getElem? (i := 14) rfl⟩
theorem kok_md_214 : KOK RX12 (214, (2, vC 24)) := ⟨"flaw", 24, rfl, List.mem_of_getElem? (i := 15) rfl⟩
theorem kok_md_216 : KOK RX12 (216, (2, vC 26)) := ⟨"thumb", 26, rfl, List.mem_of_getElem? (i := 16) rfl⟩
theorem kok_md_218 : KOK RX12 (218, (2, vC 28)) := ⟨"askew", 28, rfl, List.mem_of_getElem? (i := 17) rfl⟩
theorem kok_md_220 : KOK RX12 (220, (2, vC 30)) := ⟨"board", 30, rfl, List.mem_of_getElem? (i := 18) rfl⟩
theorem kok_md_222 : KOK RX12 (222, (2, vC 32)) := ⟨"form", 32, rfl, List.mem_of_getElem? (i := 19) rfl⟩
theorem kok_md_224 : KOK RX12 (224, (2, vC 34)) := ⟨"pair", 34, rfl, List.mem_of_getElem? (i := 20) rfl⟩
theorem fok_md_226 : FOK RX12 (226, (12, 34)) := ⟨_, _, _, rfl, by decide, gk_5 191 rfl rfl⟩
theorem fok_md_229 : FOK RX12 (229, (12, 33)) := ⟨_, _, _, rfl, by decide, gk_5 190 rfl rfl⟩
theorem kok_md_236 : KOK RX12 (236, (1, vL (48))) := ⟨_, rfl, gk_6 207 rfl rfl⟩
theorem kok_md_238 : KOK RX12 (238, (1, vL (57))) := ⟨_, rfl, gk_6 208 rfl rfl⟩
theorem fok_md_111 : FOK RX12 (111, (12, 44)) := ⟨_, _, _, rfl, by decide, gk_5 201 rfl rfl⟩
theorem fok_md_256 : FOK RX12 (256, (12, 35)) := ⟨_, _, _, rfl, by decide, gk_5 192 rfl rfl⟩
theorem fok_md_259 : FOK RX12 (259, (12, 37)) := ⟨_, _, _, rfl, by decide, gk_5 194 rfl rfl⟩
theorem fok_md_114 : FOK RX12 (114, (12, 45)) := ⟨_, _, _, rfl, by decide, gk_5 202 rfl rfl⟩
theorem fok_md_262 : FOK RX12 (262, (12, 39)) := ⟨_, _, _, rfl, by decide, gk_5 196 rfl rfl⟩
theorem fok_md_103 : FOK RX12 (103, (12, 41)) := ⟨_, _, _, rfl, by decide, gk_5 198 rfl rfl⟩
theorem kok_md_273 : KOK RX12 (273, (0, vI (99999))) := ⟨_, rfl, gk_6 198 rfl rfl⟩
theorem fok_md_297 : FOK RX12 (297, (12, 40)) := ⟨_, _, _, rfl, by decide, gk_5 197 rfl rfl⟩
theorem fok_md_132 : FOK RX12 (132, (12, 51)) := ⟨_, _, _, rfl, by decide, gk_5 208 rfl rfl⟩
theorem fok_md_300 : FOK RX12 (300, (12, 38)) := ⟨_, _, _, rfl, by decide, gk_5 195 rfl rfl⟩
theorem kok_md_306 : KOK RX12 (306, (2, vC 14)) := ⟨"not", 14, rfl, List.mem_of_getElem? (i := 21) rfl⟩
theorem kok_md_320 : KOK RX12 (320, (2, vC 56)) := ⟨"and", 56, rfl, List.mem_of_getElem? (i := 22) rfl⟩
theorem kok_md_322 : KOK RX12 (322, (2, vC 58)) := ⟨"or", 58, rfl, List.mem_of_getElem? (i := 23) rfl⟩
theorem fok_md_43 : FOK RX12 (43, (12, 12)) := ⟨_, _, _, rfl, by decide, gk_5 169 rfl rfl⟩
theorem fok_md_46 : FOK RX12 (46, (12, 13)) := ⟨_, _, _, rfl, by decide, gk_5 170 rfl rfl⟩
theorem fok_md_49 : FOK RX12 (49, (12, 14)) := ⟨_, _, _, rfl, by decide, gk_5 171 rfl rfl⟩
theorem fok_md_52 : FOK RX12 (52, (12, 15)) := ⟨_, _, _, rfl, by decide, gk_5 172 rfl rfl⟩
theorem fok_md_55 : FOK RX12 (55, (12, 16)) := ⟨_, _, _, rfl, by decide, gk_5 173 rfl rfl⟩
theorem fok_md_58 : FOK RX12 (58, (12, 17)) := ⟨_, _, _, rfl, by decide, gk_5 174 rfl rfl⟩
theorem fok_md_61 : FOK RX12 (61, (12, 18)) := ⟨_, _, _, rfl, by decide, gk_5 175 rfl rfl⟩
theorem fok_md_64 : FOK RX12 (64, (12, 19)) := ⟨_, _, _, rfl, by decide, gk_5 176 rfl rfl⟩
theorem fok_md_67 : FOK RX12 (67, (12, 20)) := ⟨_, _, _, rfl, by decide, gk_5 177 rfl rfl⟩
theorem fok_md_70 : FOK RX12 (70, (12, 21)) := ⟨_, _, _, rfl, by decide, gk_5 178 rfl rfl⟩
theorem fok_md_328 : FOK RX12 (328, (12, 42)) := ⟨_, _, _, rfl, by decide, gk_5 199 rfl rfl⟩
theorem fok_md_19 : FOK RX12 (19, (12, 4)) := ⟨_, _, _, rfl, by decide, gk_5 161 rfl rfl⟩
theorem fok_md_22 : FOK RX12 (22, (12, 5)) := ⟨_, _, _, rfl, by decide, gk_5 162 rfl rfl⟩
theorem fok_md_25 : FOK RX12 (25, (12, 6)) := ⟨_, _, _, rfl, by decide, gk_5 163 rfl rfl⟩
theorem fok_md_34 : FOK RX12 (34, (12, 9)) := ⟨_, _, _, rfl, by decide, gk_5 166 rfl rfl⟩
theorem fok_md_37 : FOK RX12 (37, (12, 10)) := ⟨_, _, _, rfl, by decide, gk_5 167 rfl rfl⟩
theorem fok_md_40 : FOK RX12 (40, (12, 11)) := ⟨_, _, _, rfl, by decide, gk_5 168 rfl rfl⟩
theorem fok_md_88 : FOK RX12 (88, (12, 27)) := ⟨_, _, _, rfl, by decide, gk_5 184 rfl rfl⟩
theorem fok_md_120 : FOK RX12 (120, (12, 47)) := ⟨_, _, _, rfl, by decide, gk_5 204 rfl rfl⟩
theorem fok_md_123 : FOK RX12 (123, (12, 48)) := ⟨_, _, _, rfl, by decide, gk_5 205 rfl rfl⟩
theorem fok_md_126 : FOK RX12 (126, (12, 49)) := ⟨_, _, _, rfl, by decide, gk_5 206 rfl rfl⟩
theorem fok_md_129 : FOK RX12 (129, (12, 50)) := ⟨_, _, _, rfl, by decide, gk_5 207 rfl rfl⟩
theorem kok_md_357 : KOK RX12 (357, (2, vC 36)) := ⟨"give", 36, rfl, List.mem_of_getElem? (i := 24) rfl⟩
theorem kok_md_359 : KOK RX12 (359, (2, vC 38)) := ⟨"from", 38, rfl, List.mem_of_getElem? (i := 25) rfl⟩
theorem kok_md_361 : KOK RX12 (361, (2, vC 20)) := ⟨"if", 20, rfl, List.mem_of_getElem? (i := 26) rfl⟩
theorem fok_md_369 : FOK RX12 (369, (12, 36)) := ⟨_, _, _, rfl, by decide, gk_5 193 rfl rfl⟩
theorem fok_md_117 : FOK RX12 (117, (12, 46)) := ⟨_, _, _, rfl, by decide, gk_5 203 rfl rfl⟩
theorem fok_md_139 : FOK RX12 (139, (12, 53)) := ⟨_, _, _, rfl, by decide, gk_5 210 rfl rfl⟩
theorem fok_md_135 : FOK RX12 (135, (12, 52)) := ⟨_, _, _, rfl, by decide, gk_5 209 rfl rfl⟩
theorem kok_md_403 : KOK RX12 (403, (1, vL (480))) := ⟨_, rfl, gk_7 80 rfl rfl⟩
theorem fok_md_73 : FOK RX12 (73, (12, 22)) := ⟨_, _, _, rfl, by decide, gk_5 179 rfl rfl⟩
theorem fok_md_76 : FOK RX12 (76, (12, 23)) := ⟨_, _, _, rfl, by decide, gk_5 180 rfl rfl⟩
theorem fok_md_79 : FOK RX12 (79, (12, 24)) := ⟨_, _, _, rfl, by decide, gk_5 181 rfl rfl⟩
theorem fok_md_82 : FOK RX12 (82, (12, 25)) := ⟨_, _, _, rfl, by decide, gk_5 182 rfl rfl⟩
theorem kok_md_440 : KOK RX12 (440, (1, vL (1103515245))) := ⟨_, rfl, gk_7 173 rfl rfl⟩
theorem kok_md_442 : KOK RX12 (442, (1, vL (12345))) := ⟨_, rfl, gk_7 174 rfl rfl⟩
theorem kok_md_444 : KOK RX12 (444, (1, vL (2147483648))) := ⟨_, rfl, gk_7 175 rfl rfl⟩
theorem kok_md_446 : KOK RX12 (446, (0, vI (65536))) := ⟨_, rfl, gk_7 176 rfl rfl⟩
theorem kok_md_450 : KOK RX12 (450, (1, vL (40))) := ⟨_, rfl, gk_7 163 rfl rfl⟩
theorem kok_md_452 : KOK RX12 (452, (1, vL (80))) := ⟨_, rfl, gk_7 164 rfl rfl⟩
theorem fok_md_142 : FOK RX12 (142, (12, 54)) := ⟨_, _, _, rfl, by decide, gk_5 211 rfl rfl⟩
theorem fok_md_145 : FOK RX12 (145, (12, 55)) := ⟨_, _, _, rfl, by decide, gk_5 212 rfl rfl⟩
theorem fok_md_148 : FOK RX12 (148, (12, 56)) := ⟨_, _, _, rfl, by decide, gk_5 213 rfl rfl⟩
theorem kok_md_461 : KOK RX12 (461, (1, vL (30))) := ⟨_, rfl, gk_7 181 rfl rfl⟩
theorem kok_md_463 : KOK RX12 (463, (1, vL (4))) := ⟨_, rfl, gk_7 182 rfl rfl⟩
theorem fok_md_85 : FOK RX12 (85, (12, 26)) := ⟨_, _, _, rfl, by decide, gk_5 183 rfl rfl⟩
theorem kok_md_468 : KOK RX12 (468, (0, vI (1000000))) := ⟨_, rfl, gk_7 200 rfl rfl⟩
theorem fok_md_154 : FOK RX12 (154, (12, 58)) := ⟨_, _, _, rfl, by decide, gk_5 215 rfl rfl⟩
theorem fok_md_151 : FOK RX12 (151, (12, 57)) := ⟨_, _, _, rfl, by decide, gk_5 214 rfl rfl⟩
theorem kok_md_469 : KOK RX12 (469, (1, vL (3))) := ⟨_, rfl, gk_7 195 rfl rfl⟩
theorem kok_md_477 : KOK RX12 (477, (1, vL (8))) := ⟨_, rfl, gk_7 209 rfl rfl⟩
theorem kok_md_479 : KOK RX12 (479, (1, vL (9))) := ⟨_, rfl, gk_7 210 rfl rfl⟩
theorem fok_md_481 : FOK RX12 (481, (12, 62)) := ⟨_, _, _, rfl, by decide, gk_5 219 rfl rfl⟩
theorem fok_md_164 : FOK RX12 (164, (12, 61)) := ⟨_, _, _, rfl, by decide, gk_5 218 rfl rfl⟩
theorem fok_md_161 : FOK RX12 (161, (12, 60)) := ⟨_, _, _, rfl, by decide, gk_5 217 rfl rfl⟩
theorem fok_md_158 : FOK RX12 (158, (12, 59)) := ⟨_, _, _, rfl, by decide, gk_5 216 rfl rfl⟩
theorem kok_md_493 : KOK RX12 (493, (0, vI (68921))) := ⟨_, rfl, gk_7 229 rfl rfl⟩
theorem kok_md_501 : KOK RX12 (501, (1, vL (2))) := ⟨_, rfl, gk_7 215 rfl rfl⟩
theorem kok_md_506 : KOK RX12 (506, (1, vL (-2))) := ⟨_, rfl, gk_7 224 rfl rfl⟩
theorem kok_md_518 : KOK RX12 (518, (1, vL (20))) := ⟨_, rfl, gk_8 19 rfl rfl⟩
theorem fok_md_167 : FOK RX12 (167, (12, 63)) := ⟨_, _, _, rfl, by decide, gk_5 220 rfl rfl⟩
theorem kok_md_524 : KOK RX12 (524, (1, vL (99))) := ⟨_, rfl, gk_8 36 rfl rfl⟩
theorem fok_md_170 : FOK RX12 (170, (12, 64)) := ⟨_, _, _, rfl, by decide, gk_5 221 rfl rfl⟩
theorem fok_md_173 : FOK RX12 (173, (12, 65)) := ⟨_, _, _, rfl, by decide, gk_5 222 rfl rfl⟩
theorem kok_md_532 : KOK RX12 (532, (1, vL (9999))) := ⟨_, rfl, gk_8 53 rfl rfl⟩
theorem kok_md_534 : KOK RX12 (534, (1, vL (100))) := ⟨_, rfl, gk_8 54 rfl rfl⟩
theorem fok_md_91 : FOK RX12 (91, (12, 28)) := ⟨_, _, _, rfl, by decide, gk_5 185 rfl rfl⟩
theorem fok_md_94 : FOK RX12 (94, (12, 29)) := ⟨_, _, _, rfl, by decide, gk_5 186 rfl rfl⟩
theorem fok_md_176 : FOK RX12 (176, (12, 66)) := ⟨_, _, _, rfl, by decide, gk_5 223 rfl rfl⟩
theorem kok_md_536 : KOK RX12 (536, (1, vL (60))) := ⟨_, rfl, gk_8 63 rfl rfl⟩
theorem kok_md_538 : KOK RX12 (538, (1, vL (50))) := ⟨_, rfl, gk_8 64 rfl rfl⟩
theorem kok_md_544 : KOK RX12 (544, (1, vL (999))) := ⟨_, rfl, gk_8 73 rfl rfl⟩
theorem kok_md_546 : KOK RX12 (546, (1, vL (333))) := ⟨_, rfl, gk_8 74 rfl rfl⟩
theorem kok_md_548 : KOK RX12 (548, (1, vL (47700))) := ⟨_, rfl, gk_8 75 rfl rfl⟩
theorem kok_md_550 : KOK RX12 (550, (1, vL (355))) := ⟨_, rfl, gk_8 76 rfl rfl⟩
theorem kok_md_552 : KOK RX12 (552, (1, vL (50850))) := ⟨_, rfl, gk_8 77 rfl rfl⟩
theorem fok_md_97 : FOK RX12 (97, (12, 30)) := ⟨_, _, _, rfl, by decide, gk_5 187 rfl rfl⟩
theorem fok_md_100 : FOK RX12 (100, (12, 31)) := ⟨_, _, _, rfl, by decide, gk_5 188 rfl rfl⟩
theorem kok_md_554 : KOK RX12 (554, (1, vL (5))) := ⟨_, rfl, gk_8 82 rfl rfl⟩
theorem kok_md_556 : KOK RX12 (556, (1, vL (-480))) := ⟨_, rfl, gk_8 87 rfl rfl⟩
theorem fok_md_561 : FOK RX12 (561, (12, 70)) := ⟨_, _, _, rfl, by decide, gk_5 227 rfl rfl⟩
theorem fok_md_179 : FOK RX12 (179, (12, 67)) := ⟨_, _, _, rfl, by decide, gk_5 224 rfl rfl⟩
theorem fok_md_565 : FOK RX12 (565, (12, 69)) := ⟨_, _, _, rfl, by decide, gk_5 226 rfl rfl⟩
theorem fok_md_182 : FOK RX12 (182, (12, 68)) := ⟨_, _, _, rfl, by decide, gk_5 225 rfl rfl⟩
theorem td_js_coder : (parseMethodDescriptor yJ0_coder_7d493.desc).map (fun d => d.parameters.length) = some 0 := by decide +kernel
theorem tc_js_coder : Cond.code yJ0_coder_7d493 cJ0_coder_7d493 1 (some .byte) ∈ gtb := gk_3 55 rfl rfl
theorem ti_js_coder : Cond.instanceMethod yJ0_coder_7d493 ∈ gtb := gk_3 53 rfl rfl
theorem tv_js_coder : Cond.selects RJ0 yJ0_coder_7d493 yJ0_coder_7d493 ∈ gtb := gk_3 54 rfl rfl
theorem td_js_length : (parseMethodDescriptor yJ0_length_8abf5.desc).map (fun d => d.parameters.length) = some 0 := by decide +kernel
theorem tc_js_length : Cond.code yJ0_length_8abf5 cJ0_length_8abf5 1 (some .int) ∈ gtb := gk_3 51 rfl rfl
theorem ti_js_length : Cond.instanceMethod yJ0_length_8abf5 ∈ gtb := gk_3 49 rfl rfl
theorem tv_js_length : Cond.selects RJ0 yJ0_length_8abf5 yJ0_length_8abf5 ∈ gtb := gk_3 50 rfl rfl
theorem td_js_isLatin1 : (parseMethodDescriptor yJ0_isLatin1_aae02.desc).map (fun d => d.parameters.length) = some 0 := by decide +kernel
theorem tc_js_isLatin1 : Cond.code yJ0_isLatin1_aae02 cJ0_isLatin1_aae02 1 (some .boolean) ∈ gtb := gk_3 65 rfl rfl
theorem ti_js_isLatin1 : Cond.instanceMethod yJ0_isLatin1_aae02 ∈ gtb := gk_3 63 rfl rfl
theorem tv_js_isLatin1 : Cond.selects RJ0 yJ0_isLatin1_aae02 yJ0_isLatin1_aae02 ∈ gtb := gk_3 64 rfl rfl
theorem td_jp_checkIndex : (parseMethodDescriptor yJ3_checkIndex_8e157.desc).map (fun d => d.parameters.length) = some 3 := by decide +kernel
theorem tc_jp_checkIndex : Cond.code yJ3_checkIndex_8e157 cJ3_checkIndex_8e157 3 (some .int) ∈ gtb := gk_3 76 rfl rfl
theorem ts_jp_checkIndex : Cond.static yJ3_checkIndex_8e157 ∈ gtb := gk_3 75 rfl rfl
theorem td_js_checkIndex : (parseMethodDescriptor yJ0_checkIndex_df160.desc).map (fun d => d.parameters.length) = some 2 := by decide +kernel
theorem tc_js_checkIndex : Cond.code yJ0_checkIndex_df160 cJ0_checkIndex_df160 2 none ∈ gtb := gk_3 71 rfl rfl
theorem ts_js_checkIndex : Cond.static yJ0_checkIndex_df160 ∈ gtb := gk_3 70 rfl rfl
theorem td_jl_charAt : (parseMethodDescriptor yJ1_charAt_3b067.desc).map (fun d => d.parameters.length) = some 2 := by decide +kernel
theorem tc_jl_charAt : Cond.code yJ1_charAt_3b067 cJ1_charAt_3b067 2 (some .char) ∈ gtb := gk_3 68 rfl rfl
theorem ts_jl_charAt : Cond.static yJ1_charAt_3b067 ∈ gtb := gk_3 67 rfl rfl
theorem td_js_charAt : (parseMethodDescriptor yJ0_charAt_5068e.desc).map (fun d => d.parameters.length) = some 1 := by decide +kernel
theorem tc_js_charAt : Cond.code yJ0_charAt_5068e cJ0_charAt_5068e 2 (some .char) ∈ gtb := gk_3 61 rfl rfl
theorem ti_js_charAt : Cond.instanceMethod yJ0_charAt_5068e ∈ gtb := gk_3 59 rfl rfl
theorem tv_js_charAt : Cond.selects RJ0 yJ0_charAt_5068e yJ0_charAt_5068e ∈ gtb := gk_3 60 rfl rfl
theorem td_ji_bitCount : (parseMethodDescriptor yJ6_bitCount_0f7a4.desc).map (fun d => d.parameters.length) = some 1 := by decide +kernel
theorem tc_ji_bitCount : Cond.code yJ6_bitCount_0f7a4 cJ6_bitCount_0f7a4 1 (some .int) ∈ gtb := gk_4 195 rfl rfl
theorem ts_ji_bitCount : Cond.static yJ6_bitCount_0f7a4 ∈ gtb := gk_4 194 rfl rfl
theorem td_fm_fits : (parseMethodDescriptor yX0_fits.desc).map (fun d => d.parameters.length) = some 4 := by decide +kernel
theorem tc_fm_fits : Cond.code yX0_fits cX0_fits 4 (some .boolean) ∈ gtb := gk_5 56 rfl rfl
theorem ts_fm_fits : Cond.static yX0_fits ∈ gtb := gk_5 55 rfl rfl
theorem td_fm_worthWith : (parseMethodDescriptor yX0_worthWith.desc).map (fun d => d.parameters.length) = some 3 := by decide +kernel
theorem tc_fm_worthWith : Cond.code yX0_worthWith cX0_worthWith 4 (some .int) ∈ gtb := gk_5 60 rfl rfl
theorem ti_fm_worthWith : Cond.instanceMethod yX0_worthWith ∈ gtb := gk_5 59 rfl rfl
theorem tv_fm_worthWith : Cond.selects RX0 yX0_worthWith yX0_worthWith ∈ gtb := gp_3 0 rfl rfl
theorem td_fm_lay : (parseMethodDescriptor yX0_lay.desc).map (fun d => d.parameters.length) = some 2 := by decide +kernel
theorem tc_fm_lay : Cond.code yX0_lay cX0_lay 6 none ∈ gtb := gk_5 53 rfl rfl
theorem ti_fm_lay : Cond.instanceMethod yX0_lay ∈ gtb := gk_5 51 rfl rfl
theorem tv_fm_lay : Cond.selects RX0 yX0_lay yX0_lay ∈ gtb := gk_5 52 rfl rfl
theorem td_fm_worthOf : (parseMethodDescriptor yX0_worthOf.desc).map (fun d => d.parameters.length) = some 1 := by decide +kernel
theorem tc_fm_worthOf : Cond.code yX0_worthOf cX0_worthOf 2 (some .int) ∈ gtb := gk_5 78 rfl rfl
theorem ti_fm_worthOf : Cond.instanceMethod yX0_worthOf ∈ gtb := gk_5 76 rfl rfl
theorem tv_fm_worthOf : Cond.selects RX0 yX0_worthOf yX0_worthOf ∈ gtb := gk_5 77 rfl rfl
theorem td_fm_firstOf : (parseMethodDescriptor yX0_firstOf.desc).map (fun d => d.parameters.length) = some 3 := by decide +kernel
theorem tc_fm_firstOf : Cond.code yX0_firstOf cX0_firstOf 5 (some .int) ∈ gtb := gk_5 82 rfl rfl
theorem ti_fm_firstOf : Cond.instanceMethod yX0_firstOf ∈ gtb := gk_5 80 rfl rfl
theorem tv_fm_firstOf : Cond.selects RX0 yX0_firstOf yX0_firstOf ∈ gtb := gk_5 81 rfl rfl
theorem td_fm_longestWorth : (parseMethodDescriptor yX0_longestWorth.desc).map (fun d => d.parameters.length) = some 1 := by decide +kernel
theorem tc_fm_longestWorth : Cond.code yX0_longestWorth cX0_longestWorth 3 (some .int) ∈ gtb := gk_5 90 rfl rfl
theorem ti_fm_longestWorth : Cond.instanceMethod yX0_longestWorth ∈ gtb := gk_5 88 rfl rfl
theorem tv_fm_longestWorth : Cond.selects RX0 yX0_longestWorth yX0_longestWorth ∈ gtb := gk_5 89 rfl rfl
theorem td_fm_leastAlone : (parseMethodDescriptor yX0_leastAlone.desc).map (fun d => d.parameters.length) = some 3 := by decide +kernel
theorem tc_fm_leastAlone : Cond.code yX0_leastAlone cX0_leastAlone 6 (some .int) ∈ gtb := gk_5 69 rfl rfl
theorem ti_fm_leastAlone : Cond.instanceMethod yX0_leastAlone ∈ gtb := gk_5 68 rfl rfl
theorem tv_fm_leastAlone : Cond.selects RX0 yX0_leastAlone yX0_leastAlone ∈ gtb := gp_3 2 rfl rfl
theorem td_fm_gainOfPairs : (parseMethodDescriptor yX0_gainOfPairs.desc).map (fun d => d.parameters.length) = some 2 := by decide +kernel
theorem tc_fm_gainOfPairs : Cond.code yX0_gainOfPairs cX0_gainOfPairs 8 (some .int) ∈ gtb := gk_5 65 rfl rfl
theorem ti_fm_gainOfPairs : Cond.instanceMethod yX0_gainOfPairs ∈ gtb := gk_5 64 rfl rfl
theorem tv_fm_gainOfPairs : Cond.selects RX0 yX0_gainOfPairs yX0_gainOfPairs ∈ gtb := gp_3 1 rfl rfl
theorem td_fm_worthOfBasket : (parseMethodDescriptor yX0_worthOfBasket.desc).map (fun d => d.parameters.length) = some 1 := by decide +kernel
theorem tc_fm_worthOfBasket : Cond.code yX0_worthOfBasket cX0_worthOfBasket 4 (some .int) ∈ gtb := gk_5 49 rfl rfl
theorem ti_fm_worthOfBasket : Cond.instanceMethod yX0_worthOfBasket ∈ gtb := gk_5 47 rfl rfl
theorem tv_fm_worthOfBasket : Cond.selects RX0 yX0_worthOfBasket yX0_worthOfBasket ∈ gtb := gk_5 48 rfl rfl
theorem td_kp_addUp : (parseMethodDescriptor yX1_addUp.desc).map (fun d => d.parameters.length) = some 1 := by decide +kernel
theorem tc_kp_addUp : Cond.code yX1_addUp cX1_addUp 5 none ∈ gtb := gk_4 187 rfl rfl
theorem ti_kp_addUp : Cond.instanceMethod yX1_addUp ∈ gtb := gk_4 186 rfl rfl
theorem tv_kp_addUp : Cond.selects RX1 yX1_addUp yX1_addUp ∈ gtb := gp_2 8 rfl rfl
theorem td_kp_addBale : (parseMethodDescriptor yX1_addBale.desc).map (fun d => d.parameters.length) = some 3 := by decide +kernel
theorem tc_kp_addBale : Cond.code yX1_addBale cX1_addBale 10 none ∈ gtb := gk_4 192 rfl rfl
theorem ti_kp_addBale : Cond.instanceMethod yX1_addBale ∈ gtb := gk_4 191 rfl rfl
theorem tv_kp_addBale : Cond.selects RX1 yX1_addBale yX1_addBale ∈ gtb := gp_2 9 rfl rfl
theorem td_kp_choose : (parseMethodDescriptor yX1_choose.desc).map (fun d => d.parameters.length) = some 1 := by decide +kernel
theorem tc_kp_choose : Cond.code yX1_choose cX1_choose 4 none ∈ gtb := gk_4 203 rfl rfl
theorem ti_kp_choose : Cond.instanceMethod yX1_choose ∈ gtb := gk_4 202 rfl rfl
theorem tv_kp_choose : Cond.selects RX1 yX1_choose yX1_choose ∈ gtb := gp_2 10 rfl rfl
theorem td_kp_work : (parseMethodDescriptor yX1_work.desc).map (fun d => d.parameters.length) = some 2 := by decide +kernel
theorem tc_kp_work : Cond.code yX1_work cX1_work 5 none ∈ gtb := gk_4 183 rfl rfl
theorem ti_kp_work : Cond.instanceMethod yX1_work ∈ gtb := gk_4 181 rfl rfl
theorem tv_kp_work : Cond.selects RX1 yX1_work yX1_work ∈ gtb := gk_4 182 rfl rfl
theorem td_ru_clear : (parseMethodDescriptor yX2_clear.desc).map (fun d => d.parameters.length) = some 0 := by decide +kernel
theorem tc_ru_clear : Cond.code yX2_clear cX2_clear 1 none ∈ gtb := gk_3 164 rfl rfl
theorem ti_ru_clear : Cond.instanceMethod yX2_clear ∈ gtb := gk_3 162 rfl rfl
theorem tv_ru_clear : Cond.selects RX2 yX2_clear yX2_clear ∈ gtb := gk_3 163 rfl rfl
theorem td_ru_copyFrom : (parseMethodDescriptor yX2_copyFrom.desc).map (fun d => d.parameters.length) = some 1 := by decide +kernel
theorem tc_ru_copyFrom : Cond.code yX2_copyFrom cX2_copyFrom 3 none ∈ gtb := gk_4 9 rfl rfl
theorem ti_ru_copyFrom : Cond.instanceMethod yX2_copyFrom ∈ gtb := gk_4 7 rfl rfl
theorem tv_ru_copyFrom : Cond.selects RX2 yX2_copyFrom yX2_copyFrom ∈ gtb := gk_4 8 rfl rfl
theorem td_ru_beginTest : (parseMethodDescriptor yX2_beginTest.desc).map (fun d => d.parameters.length) = some 0 := by decide +kernel
theorem tc_ru_beginTest : Cond.code yX2_beginTest cX2_beginTest 1 none ∈ gtb := gk_3 180 rfl rfl
theorem ti_ru_beginTest : Cond.instanceMethod yX2_beginTest ∈ gtb := gk_3 178 rfl rfl
theorem tv_ru_beginTest : Cond.selects RX2 yX2_beginTest yX2_beginTest ∈ gtb := gk_3 179 rfl rfl
theorem td_ru_beginClause : (parseMethodDescriptor yX2_beginClause.desc).map (fun d => d.parameters.length) = some 1 := by decide +kernel
theorem tc_ru_beginClause : Cond.code yX2_beginClause cX2_beginClause 2 none ∈ gtb := gk_3 176 rfl rfl
theorem ti_ru_beginClause : Cond.instanceMethod yX2_beginClause ∈ gtb := gk_3 174 rfl rfl
theorem tv_ru_beginClause : Cond.selects RX2 yX2_beginClause yX2_beginClause ∈ gtb := gk_3 175 rfl rfl
theorem td_ru_append : (parseMethodDescriptor yX2_append.desc).map (fun d => d.parameters.length) = some 2 := by decide +kernel
theorem tc_ru_append : Cond.code yX2_append cX2_append 3 none ∈ gtb := gk_3 214 rfl rfl
theorem ti_ru_append : Cond.instanceMethod yX2_append ∈ gtb := gk_3 212 rfl rfl
theorem tv_ru_append : Cond.selects RX2 yX2_append yX2_append ∈ gtb := gk_3 213 rfl rfl
theorem td_ru_join : (parseMethodDescriptor yX2_join.desc).map (fun d => d.parameters.length) = some 3 := by decide +kernel
theorem tc_ru_join : Cond.code yX2_join cX2_join 5 (some .long) ∈ gtb := gk_4 117 rfl rfl
theorem ts_ru_join : Cond.static yX2_join ∈ gtb := gk_4 116 rfl rfl
theorem td_ru_run : (parseMethodDescriptor yX2_run.desc).map (fun d => d.parameters.length) = some 3 := by decide +kernel
theorem tc_ru_run : Cond.code yX2_run cX2_run 8 (some .long) ∈ gtb := gk_4 114 rfl rfl
theorem ti_ru_run : Cond.instanceMethod yX2_run ∈ gtb := gk_4 113 rfl rfl
theorem tv_ru_run : Cond.selects RX2 yX2_run yX2_run ∈ gtb := gp_2 6 rfl rfl
theorem td_ru_holds : (parseMethodDescriptor yX2_holds.desc).map (fun d => d.parameters.length) = some 2 := by decide +kernel
theorem tc_ru_holds : Cond.code yX2_holds cX2_holds 3 (some .boolean) ∈ gtb := gk_4 110 rfl rfl
theorem ti_ru_holds : Cond.instanceMethod yX2_holds ∈ gtb := gk_4 109 rfl rfl
theorem tv_ru_holds : Cond.selects RX2 yX2_holds yX2_holds ∈ gtb := gp_2 5 rfl rfl
theorem td_ru_clauseFor : (parseMethodDescriptor yX2_clauseFor.desc).map (fun d => d.parameters.length) = some 1 := by decide +kernel
theorem tc_ru_clauseFor : Cond.code yX2_clauseFor cX2_clauseFor 3 (some .int) ∈ gtb := gk_4 106 rfl rfl
theorem ti_ru_clauseFor : Cond.instanceMethod yX2_clauseFor ∈ gtb := gk_4 104 rfl rfl
theorem tv_ru_clauseFor : Cond.selects RX2 yX2_clauseFor yX2_clauseFor ∈ gtb := gk_4 105 rfl rfl
theorem td_ru_sumOf : (parseMethodDescriptor yX2_sumOf.desc).map (fun d => d.parameters.length) = some 2 := by decide +kernel
theorem tc_ru_sumOf : Cond.code yX2_sumOf cX2_sumOf 3 (some .long) ∈ gtb := gk_4 121 rfl rfl
theorem ti_ru_sumOf : Cond.instanceMethod yX2_sumOf ∈ gtb := gk_4 119 rfl rfl
theorem tv_ru_sumOf : Cond.selects RX2 yX2_sumOf yX2_sumOf ∈ gtb := gk_4 120 rfl rfl
theorem td_ru_gives : (parseMethodDescriptor yX2_gives.desc).map (fun d => d.parameters.length) = some 1 := by decide +kernel
theorem tc_ru_gives : Cond.code yX2_gives cX2_gives 3 (some .boolean) ∈ gtb := gk_4 125 rfl rfl
theorem ti_ru_gives : Cond.instanceMethod yX2_gives ∈ gtb := gk_4 123 rfl rfl
theorem tv_ru_gives : Cond.selects RX2 yX2_gives yX2_gives ∈ gtb := gk_4 124 rfl rfl
theorem td_tx_next : (parseMethodDescriptor yX8_next.desc).map (fun d => d.parameters.length) = some 0 := by decide +kernel
theorem tc_tx_next : Cond.code yX8_next cX8_next 1 (some .int) ∈ gtb := gk_3 42 rfl rfl
theorem ti_tx_next : Cond.instanceMethod yX8_next ∈ gtb := gk_3 40 rfl rfl
theorem tv_tx_next : Cond.selects RX8 yX8_next yX8_next ∈ gtb := gk_3 41 rfl rfl
theorem td_tx_readWord : (parseMethodDescriptor yX8_readWord.desc).map (fun d => d.parameters.length) = some 1 := by decide +kernel
theorem tc_tx_readWord : Cond.code yX8_readWord cX8_readWord 7 (some .int) ∈ gtb := gk_3 47 rfl rfl
theorem ti_tx_readWord : Cond.instanceMethod yX8_readWord ∈ gtb := gk_3 45 rfl rfl
theorem tv_tx_readWord : Cond.selects RX8 yX8_readWord yX8_readWord ∈ gtb := gk_3 46 rfl rfl
theorem td_tx_fault : (parseMethodDescriptor yX8_fault.desc).map (fun d => d.parameters.length) = some 2 := by decide +kernel
theorem tc_tx_fault : Cond.code yX8_fault cX8_fault 2 (some .int) ∈ gtb := gk_3 98 rfl rfl
theorem ts_tx_fault : Cond.static yX8_fault ∈ gtb := gk_3 97 rfl rfl
theorem td_tx_peek : (parseMethodDescriptor yX8_peek.desc).map (fun d => d.parameters.length) = some 0 := by decide +kernel
theorem tc_tx_peek : Cond.code yX8_peek cX8_peek 1 (some .int) ∈ gtb := gk_3 127 rfl rfl
theorem ti_tx_peek : Cond.instanceMethod yX8_peek ∈ gtb := gk_3 125 rfl rfl
theorem tv_tx_peek : Cond.selects RX8 yX8_peek yX8_peek ∈ gtb := gk_3 126 rfl rfl
theorem td_tx_step : (parseMethodDescriptor yX8_step.desc).map (fun d => d.parameters.length) = some 0 := by decide +kernel
theorem tc_tx_step : Cond.code yX8_step cX8_step 1 none ∈ gtb := gk_3 131 rfl rfl
theorem ti_tx_step : Cond.instanceMethod yX8_step ∈ gtb := gk_3 129 rfl rfl
theorem tv_tx_step : Cond.selects RX8 yX8_step yX8_step ∈ gtb := gk_3 130 rfl rfl
theorem td_rr_readOpening : (parseMethodDescriptor yX3_readOpening.desc).map (fun d => d.parameters.length) = some 1 := by decide +kernel
theorem tc_rr_readOpening : Cond.code yX3_readOpening cX3_readOpening 3 (some .int) ∈ gtb := gk_3 192 rfl rfl
theorem ti_rr_readOpening : Cond.instanceMethod yX3_readOpening ∈ gtb := gk_3 191 rfl rfl
theorem tv_rr_readOpening : Cond.selects RX3 yX3_readOpening yX3_readOpening ∈ gtb := gp_1 6 rfl rfl
theorem td_rr_hold : (parseMethodDescriptor yX3_hold.desc).map (fun d => d.parameters.length) = some 1 := by decide +kernel
theorem tc_rr_hold : Cond.code yX3_hold cX3_hold 2 none ∈ gtb := gk_3 199 rfl rfl
theorem ti_rr_hold : Cond.instanceMethod yX3_hold ∈ gtb := gk_3 198 rfl rfl
theorem tv_rr_hold : Cond.selects RX3 yX3_hold yX3_hold ∈ gtb := gp_1 7 rfl rfl
theorem td_rr_readOpenings : (parseMethodDescriptor yX3_readOpenings.desc).map (fun d => d.parameters.length) = some 1 := by decide +kernel
theorem tc_rr_readOpenings : Cond.code yX3_readOpenings cX3_readOpenings 5 (some .int) ∈ gtb := gk_3 188 rfl rfl
theorem ti_rr_readOpenings : Cond.instanceMethod yX3_readOpenings ∈ gtb := gk_3 187 rfl rfl
theorem tv_rr_readOpenings : Cond.selects RX3 yX3_readOpenings yX3_readOpenings ∈ gtb := gp_1 5 rfl rfl
theorem td_tx_readNumber : (parseMethodDescriptor yX8_readNumber.desc).map (fun d => d.parameters.length) = some 0 := by decide +kernel
theorem tc_tx_readNumber : Cond.code yX8_readNumber cX8_readNumber 3 (some .int) ∈ gtb := gk_3 106 rfl rfl
theorem ti_tx_readNumber : Cond.instanceMethod yX8_readNumber ∈ gtb := gk_3 104 rfl rfl
theorem tv_tx_readNumber : Cond.selects RX8 yX8_readNumber yX8_readNumber ∈ gtb := gk_3 105 rfl rfl
theorem td_rr_readValue : (parseMethodDescriptor yX3_readValue.desc).map (fun d => d.parameters.length) = some 1 := by decide +kernel
theorem tc_rr_readValue : Cond.code yX3_readValue cX3_readValue 5 (some .int) ∈ gtb := gk_3 207 rfl rfl
theorem ti_rr_readValue : Cond.instanceMethod yX3_readValue ∈ gtb := gk_3 206 rfl rfl
theorem tv_rr_readValue : Cond.selects RX3 yX3_readValue yX3_readValue ∈ gtb := gp_1 9 rfl rfl
theorem td_rr_readBetween : (parseMethodDescriptor yX3_readBetween.desc).map (fun d => d.parameters.length) = some 1 := by decide +kernel
theorem tc_rr_readBetween : Cond.code yX3_readBetween cX3_readBetween 3 (some .int) ∈ gtb := gk_3 218 rfl rfl
theorem ti_rr_readBetween : Cond.instanceMethod yX3_readBetween ∈ gtb := gk_3 217 rfl rfl
theorem tv_rr_readBetween : Cond.selects RX3 yX3_readBetween yX3_readBetween ∈ gtb := gp_1 10 rfl rfl
theorem td_rr_readSum : (parseMethodDescriptor yX3_readSum.desc).map (fun d => d.parameters.length) = some 1 := by decide +kernel
theorem tc_rr_readSum : Cond.code yX3_readSum cX3_readSum 7 (some .int) ∈ gtb := gk_3 203 rfl rfl
theorem ti_rr_readSum : Cond.instanceMethod yX3_readSum ∈ gtb := gk_3 202 rfl rfl
theorem tv_rr_readSum : Cond.selects RX3 yX3_readSum yX3_readSum ∈ gtb := gp_1 8 rfl rfl
theorem td_rr_readSign : (parseMethodDescriptor yX3_readSign.desc).map (fun d => d.parameters.length) = some 1 := by decide +kernel
theorem tc_rr_readSign : Cond.code yX3_readSign cX3_readSign 5 (some .int) ∈ gtb := gk_3 222 rfl rfl
theorem ti_rr_readSign : Cond.instanceMethod yX3_readSign ∈ gtb := gk_3 221 rfl rfl
theorem tv_rr_readSign : Cond.selects RX3 yX3_readSign yX3_readSign ∈ gtb := gp_1 11 rfl rfl
theorem td_rr_settleNots : (parseMethodDescriptor yX3_settleNots.desc).map (fun d => d.parameters.length) = some 0 := by decide +kernel
theorem tc_rr_settleNots : Cond.code yX3_settleNots cX3_settleNots 2 none ∈ gtb := gk_3 230 rfl rfl
theorem ti_rr_settleNots : Cond.instanceMethod yX3_settleNots ∈ gtb := gk_3 229 rfl rfl
theorem tv_rr_settleNots : Cond.selects RX3 yX3_settleNots yX3_settleNots ∈ gtb := gp_1 13 rfl rfl
theorem td_rr_settle : (parseMethodDescriptor yX3_settle.desc).map (fun d => d.parameters.length) = some 1 := by decide +kernel
theorem tc_rr_settle : Cond.code yX3_settle cX3_settle 4 none ∈ gtb := gk_3 234 rfl rfl
theorem ti_rr_settle : Cond.instanceMethod yX3_settle ∈ gtb := gk_3 233 rfl rfl
theorem tv_rr_settle : Cond.selects RX3 yX3_settle yX3_settle ∈ gtb := gp_1 14 rfl rfl
theorem td_rr_closeBrackets : (parseMethodDescriptor yX3_closeBrackets.desc).map (fun d => d.parameters.length) = some 1 := by decide +kernel
theorem tc_rr_closeBrackets : Cond.code yX3_closeBrackets cX3_closeBrackets 3 none ∈ gtb := gk_3 226 rfl rfl
theorem ti_rr_closeBrackets : Cond.instanceMethod yX3_closeBrackets ∈ gtb := gk_3 225 rfl rfl
theorem tv_rr_closeBrackets : Cond.selects RX3 yX3_closeBrackets yX3_closeBrackets ∈ gtb := gp_1 12 rfl rfl
theorem td_tx_byteAt : (parseMethodDescriptor yX8_byteAt.desc).map (fun d => d.parameters.length) = some 1 := by decide +kernel
theorem tc_tx_byteAt : Cond.code yX8_byteAt cX8_byteAt 2 (some .int) ∈ gtb := gk_4 3 rfl rfl
theorem ti_tx_byteAt : Cond.instanceMethod yX8_byteAt ∈ gtb := gk_4 1 rfl rfl
theorem tv_tx_byteAt : Cond.selects RX8 yX8_byteAt yX8_byteAt ∈ gtb := gk_4 2 rfl rfl
theorem td_rr_clauseEnd : (parseMethodDescriptor yX3_clauseEnd.desc).map (fun d => d.parameters.length) = some 2 := by decide +kernel
theorem tc_rr_clauseEnd : Cond.code yX3_clauseEnd cX3_clauseEnd 4 (some .int) ∈ gtb := gk_3 239 rfl rfl
theorem ti_rr_clauseEnd : Cond.instanceMethod yX3_clauseEnd ∈ gtb := gk_3 238 rfl rfl
theorem tv_rr_clauseEnd : Cond.selects RX3 yX3_clauseEnd yX3_clauseEnd ∈ gtb := gp_1 15 rfl rfl
theorem td_rr_readTest : (parseMethodDescriptor yX3_readTest.desc).map (fun d => d.parameters.length) = some 1 := by decide +kernel
theorem tc_rr_readTest : Cond.code yX3_readTest cX3_readTest 6 (some .int) ∈ gtb := gk_3 184 rfl rfl
theorem ti_rr_readTest : Cond.instanceMethod yX3_readTest ∈ gtb := gk_3 183 rfl rfl
theorem tv_rr_readTest : Cond.selects RX3 yX3_readTest yX3_readTest ∈ gtb := gp_1 4 rfl rfl
theorem td_rr_readClause : (parseMethodDescriptor yX3_readClause.desc).map (fun d => d.parameters.length) = some 2 := by decide +kernel
theorem tc_rr_readClause : Cond.code yX3_readClause cX3_readClause 6 (some .int) ∈ gtb := gk_3 168 rfl rfl
theorem ti_rr_readClause : Cond.instanceMethod yX3_readClause ∈ gtb := gk_3 167 rfl rfl
theorem tv_rr_readClause : Cond.selects RX3 yX3_readClause yX3_readClause ∈ gtb := gp_1 3 rfl rfl
theorem td_rr_read : (parseMethodDescriptor yX3_read.desc).map (fun d => d.parameters.length) = some 1 := by decide +kernel
theorem tc_rr_read : Cond.code yX3_read cX3_read 4 (some .int) ∈ gtb := gk_3 160 rfl rfl
theorem ti_rr_read : Cond.instanceMethod yX3_read ∈ gtb := gk_3 158 rfl rfl
theorem tv_rr_read : Cond.selects RX3 yX3_read yX3_read ∈ gtb := gk_3 159 rfl rfl
theorem td_sp_coinsBy : (parseMethodDescriptor yX4_coinsBy.desc).map (fun d => d.parameters.length) = some 3 := by decide +kernel
theorem tc_sp_coinsBy : Cond.code yX4_coinsBy cX4_coinsBy 6 (some .int) ∈ gtb := gk_5 110 rfl rfl
theorem ti_sp_coinsBy : Cond.instanceMethod yX4_coinsBy ∈ gtb := gk_5 109 rfl rfl
theorem tv_sp_coinsBy : Cond.selects RX4 yX4_coinsBy yX4_coinsBy ∈ gtb := gp_3 4 rfl rfl
theorem td_sp_addWeek : (parseMethodDescriptor yX4_addWeek.desc).map (fun d => d.parameters.length) = some 2 := by decide +kernel
theorem tc_sp_addWeek : Cond.code yX4_addWeek cX4_addWeek 6 none ∈ gtb := gk_5 106 rfl rfl
theorem ti_sp_addWeek : Cond.instanceMethod yX4_addWeek ∈ gtb := gk_5 105 rfl rfl
theorem tv_sp_addWeek : Cond.selects RX4 yX4_addWeek yX4_addWeek ∈ gtb := gp_3 3 rfl rfl
theorem td_sp_work : (parseMethodDescriptor yX4_work.desc).map (fun d => d.parameters.length) = some 4 := by decide +kernel
theorem tc_sp_work : Cond.code yX4_work cX4_work 7 none ∈ gtb := gk_5 102 rfl rfl
theorem ti_sp_work : Cond.instanceMethod yX4_work ∈ gtb := gk_5 100 rfl rfl
theorem tv_sp_work : Cond.selects RX4 yX4_work yX4_work ∈ gtb := gk_5 101 rfl rfl
theorem td_sh_clear : (parseMethodDescriptor yX5_clear.desc).map (fun d => d.parameters.length) = some 0 := by decide +kernel
theorem tc_sh_clear : Cond.code yX5_clear cX5_clear 1 none ∈ gtb := gk_3 34 rfl rfl
theorem ti_sh_clear : Cond.instanceMethod yX5_clear ∈ gtb := gk_3 32 rfl rfl
theorem tv_sh_clear : Cond.selects RX5 yX5_clear yX5_clear ∈ gtb := gk_3 33 rfl rfl
theorem td_sh_copyFrom : (parseMethodDescriptor yX5_copyFrom.desc).map (fun d => d.parameters.length) = some 1 := by decide +kernel
theorem tc_sh_copyFrom : Cond.code yX5_copyFrom cX5_copyFrom 3 none ∈ gtb := gk_3 139 rfl rfl
theorem ti_sh_copyFrom : Cond.instanceMethod yX5_copyFrom ∈ gtb := gk_3 137 rfl rfl
theorem tv_sh_copyFrom : Cond.selects RX5 yX5_copyFrom yX5_copyFrom ∈ gtb := gk_3 138 rfl rfl
theorem td_sh_has : (parseMethodDescriptor yX5_has.desc).map (fun d => d.parameters.length) = some 1 := by decide +kernel
theorem tc_sh_has : Cond.code yX5_has cX5_has 2 (some .boolean) ∈ gtb := gk_3 119 rfl rfl
theorem ti_sh_has : Cond.instanceMethod yX5_has ∈ gtb := gk_3 117 rfl rfl
theorem tv_sh_has : Cond.selects RX5 yX5_has yX5_has ∈ gtb := gk_3 118 rfl rfl
theorem td_sh_hasEnd : (parseMethodDescriptor yX5_hasEnd.desc).map (fun d => d.parameters.length) = some 1 := by decide +kernel
theorem tc_sh_hasEnd : Cond.code yX5_hasEnd cX5_hasEnd 2 (some .boolean) ∈ gtb := gk_4 26 rfl rfl
theorem ti_sh_hasEnd : Cond.instanceMethod yX5_hasEnd ∈ gtb := gk_4 24 rfl rfl
theorem tv_sh_hasEnd : Cond.selects RX5 yX5_hasEnd yX5_hasEnd ∈ gtb := gk_4 25 rfl rfl
theorem td_sh_eighthsLeft : (parseMethodDescriptor yX5_eighthsLeft.desc).map (fun d => d.parameters.length) = some 0 := by decide +kernel
theorem tc_sh_eighthsLeft : Cond.code yX5_eighthsLeft cX5_eighthsLeft 3 (some .int) ∈ gtb := gk_4 164 rfl rfl
theorem ti_sh_eighthsLeft : Cond.instanceMethod yX5_eighthsLeft ∈ gtb := gk_4 162 rfl rfl
theorem tv_sh_eighthsLeft : Cond.selects RX5 yX5_eighthsLeft yX5_eighthsLeft ∈ gtb := gk_4 163 rfl rfl
theorem td_sh_flawsWithin : (parseMethodDescriptor yX5_flawsWithin.desc).map (fun d => d.parameters.length) = some 2 := by decide +kernel
theorem tc_sh_flawsWithin : Cond.code yX5_flawsWithin cX5_flawsWithin 5 (some .int) ∈ gtb := gk_4 18 rfl rfl
theorem ti_sh_flawsWithin : Cond.instanceMethod yX5_flawsWithin ∈ gtb := gk_4 16 rfl rfl
theorem tv_sh_flawsWithin : Cond.selects RX5 yX5_flawsWithin yX5_flawsWithin ∈ gtb := gk_4 17 rfl rfl
theorem td_sh_nearestFlaw : (parseMethodDescriptor yX5_nearestFlaw.desc).map (fun d => d.parameters.length) = some 1 := by decide +kernel
theorem tc_sh_nearestFlaw : Cond.code yX5_nearestFlaw cX5_nearestFlaw 4 (some .int) ∈ gtb := gk_4 22 rfl rfl
theorem ti_sh_nearestFlaw : Cond.instanceMethod yX5_nearestFlaw ∈ gtb := gk_4 20 rfl rfl
theorem tv_sh_nearestFlaw : Cond.selects RX5 yX5_nearestFlaw yX5_nearestFlaw ∈ gtb := gk_4 21 rfl rfl
theorem td_sh_restBehind : (parseMethodDescriptor yX5_restBehind.desc).map (fun d => d.parameters.length) = some 3 := by decide +kernel
theorem tc_sh_restBehind : Cond.code yX5_restBehind cX5_restBehind 4 (some .int) ∈ gtb := gk_4 47 rfl rfl
theorem ti_sh_restBehind : Cond.instanceMethod yX5_restBehind ∈ gtb := gk_4 45 rfl rfl
theorem tv_sh_restBehind : Cond.selects RX5 yX5_restBehind yX5_restBehind ∈ gtb := gk_4 46 rfl rfl
theorem td_sh_shorten : (parseMethodDescriptor yX5_shorten.desc).map (fun d => d.parameters.length) = some 2 := by decide +kernel
theorem tc_sh_shorten : Cond.code yX5_shorten cX5_shorten 6 none ∈ gtb := gk_4 54 rfl rfl
theorem ti_sh_shorten : Cond.instanceMethod yX5_shorten ∈ gtb := gk_4 52 rfl rfl
theorem tv_sh_shorten : Cond.selects RX5 yX5_shorten yX5_shorten ∈ gtb := gk_4 53 rfl rfl
theorem td_sh_dropsOf : (parseMethodDescriptor yX5_dropsOf.desc).map (fun d => d.parameters.length) = some 2 := by decide +kernel
theorem tc_sh_dropsOf : Cond.code yX5_dropsOf cX5_dropsOf 5 (some .int) ∈ gtb := gk_5 17 rfl rfl
theorem ti_sh_dropsOf : Cond.instanceMethod yX5_dropsOf ∈ gtb := gk_5 15 rfl rfl
theorem tv_sh_dropsOf : Cond.selects RX5 yX5_dropsOf yX5_dropsOf ∈ gtb := gk_5 16 rfl rfl
theorem td_sh_dropsOfLot : (parseMethodDescriptor yX5_dropsOfLot.desc).map (fun d => d.parameters.length) = some 2 := by decide +kernel
theorem tc_sh_dropsOfLot : Cond.code yX5_dropsOfLot cX5_dropsOfLot 5 (some .int) ∈ gtb := gk_5 28 rfl rfl
theorem ti_sh_dropsOfLot : Cond.instanceMethod yX5_dropsOfLot ∈ gtb := gk_5 26 rfl rfl
theorem tv_sh_dropsOfLot : Cond.selects RX5 yX5_dropsOfLot yX5_dropsOfLot ∈ gtb := gk_5 27 rfl rfl
theorem td_sh_hidesFlaws : (parseMethodDescriptor yX5_hidesFlaws.desc).map (fun d => d.parameters.length) = some 4 := by decide +kernel
theorem tc_sh_hidesFlaws : Cond.code yX5_hidesFlaws cX5_hidesFlaws 9 (some .boolean) ∈ gtb := gk_5 41 rfl rfl
theorem ti_sh_hidesFlaws : Cond.instanceMethod yX5_hidesFlaws ∈ gtb := gk_5 39 rfl rfl
theorem tv_sh_hidesFlaws : Cond.selects RX5 yX5_hidesFlaws yX5_hidesFlaws ∈ gtb := gk_5 40 rfl rfl
theorem td_sr_most : (parseMethodDescriptor yX6_most.desc).map (fun d => d.parameters.length) = some 2 := by decide +kernel
theorem tc_sr_most : Cond.code yX6_most cX6_most 3 (some .int) ∈ gtb := gk_3 113 rfl rfl
theorem ti_sr_most : Cond.instanceMethod yX6_most ∈ gtb := gk_3 112 rfl rfl
theorem tv_sr_most : Cond.selects RX6 yX6_most yX6_most ∈ gtb := gp_1 1 rfl rfl
theorem td_sr_keep : (parseMethodDescriptor yX6_keep.desc).map (fun d => d.parameters.length) = some 2 := by decide +kernel
theorem tc_sr_keep : Cond.code yX6_keep cX6_keep 3 none ∈ gtb := gk_3 123 rfl rfl
theorem ti_sr_keep : Cond.instanceMethod yX6_keep ∈ gtb := gk_3 122 rfl rfl
theorem tv_sr_keep : Cond.selects RX6 yX6_keep yX6_keep ∈ gtb := gp_1 2 rfl rfl
theorem td_sr_readClause : (parseMethodDescriptor yX6_readClause.desc).map (fun d => d.parameters.length) = some 2 := by decide +kernel
theorem tc_sr_readClause : Cond.code yX6_readClause cX6_readClause 7 (some .int) ∈ gtb := gk_3 38 rfl rfl
theorem ti_sr_readClause : Cond.instanceMethod yX6_readClause ∈ gtb := gk_3 37 rfl rfl
theorem tv_sr_readClause : Cond.selects RX6 yX6_readClause yX6_readClause ∈ gtb := gp_1 0 rfl rfl
theorem td_sr_read : (parseMethodDescriptor yX6_read.desc).map (fun d => d.parameters.length) = some 1 := by decide +kernel
theorem tc_sr_read : Cond.code yX6_read cX6_read 5 (some .int) ∈ gtb := gk_3 30 rfl rfl
theorem ti_sr_read : Cond.instanceMethod yX6_read ∈ gtb := gk_3 28 rfl rfl
theorem tv_sr_read : Cond.selects RX6 yX6_read yX6_read ∈ gtb := gk_3 29 rfl rfl
theorem td_td_copyFrom : (parseMethodDescriptor yX9_copyFrom.desc).map (fun d => d.parameters.length) = some 1 := by decide +kernel
theorem tc_td_copyFrom : Cond.code yX9_copyFrom cX9_copyFrom 3 none ∈ gtb := gk_4 159 rfl rfl
theorem ti_td_copyFrom : Cond.instanceMethod yX9_copyFrom ∈ gtb := gk_4 157 rfl rfl
theorem tv_td_copyFrom : Cond.selects RX9 yX9_copyFrom yX9_copyFrom ∈ gtb := gk_4 158 rfl rfl
theorem td_sd_copyFrom : (parseMethodDescriptor yX7_copyFrom.desc).map (fun d => d.parameters.length) = some 1 := by decide +kernel
theorem tc_sd_copyFrom : Cond.code yX7_copyFrom cX7_copyFrom 3 none ∈ gtb := gk_4 155 rfl rfl
theorem ti_sd_copyFrom : Cond.instanceMethod yX7_copyFrom ∈ gtb := gk_4 153 rfl rfl
theorem tv_sd_copyFrom : Cond.selects RX7 yX7_copyFrom yX7_copyFrom ∈ gtb := gk_4 154 rfl rfl
theorem td_td_clearEntries : (parseMethodDescriptor yX9_clearEntries.desc).map (fun d => d.parameters.length) = some 0 := by decide +kernel
theorem tc_td_clearEntries : Cond.code yX9_clearEntries cX9_clearEntries 2 none ∈ gtb := gk_3 147 rfl rfl
theorem ti_td_clearEntries : Cond.instanceMethod yX9_clearEntries ∈ gtb := gk_3 145 rfl rfl
theorem tv_td_clearEntries : Cond.selects RX9 yX9_clearEntries yX9_clearEntries ∈ gtb := gk_3 146 rfl rfl
theorem td_td_clear : (parseMethodDescriptor yX9_clear.desc).map (fun d => d.parameters.length) = some 0 := by decide +kernel
theorem tc_td_clear : Cond.code yX9_clear cX9_clear 2 none ∈ gtb := gk_3 143 rfl rfl
theorem ti_td_clear : Cond.instanceMethod yX9_clear ∈ gtb := gk_3 141 rfl rfl
theorem tv_td_clear : Cond.selects RX9 yX9_clear yX9_clear ∈ gtb := gk_3 142 rfl rfl
theorem td_sd_clearCounts : (parseMethodDescriptor yX7_clearCounts.desc).map (fun d => d.parameters.length) = some 0 := by decide +kernel
theorem tc_sd_clearCounts : Cond.code yX7_clearCounts cX7_clearCounts 1 none ∈ gtb := gk_3 151 rfl rfl
theorem ti_sd_clearCounts : Cond.instanceMethod yX7_clearCounts ∈ gtb := gk_3 149 rfl rfl
theorem tv_sd_clearCounts : Cond.selects RX7 yX7_clearCounts yX7_clearCounts ∈ gtb := gk_3 150 rfl rfl
theorem td_sd_open : (parseMethodDescriptor yX7_open.desc).map (fun d => d.parameters.length) = some 1 := by decide +kernel
theorem tc_sd_open : Cond.code yX7_open cX7_open 2 none ∈ gtb := gk_3 135 rfl rfl
theorem ti_sd_open : Cond.instanceMethod yX7_open ∈ gtb := gk_3 133 rfl rfl
theorem tv_sd_open : Cond.selects RX7 yX7_open yX7_open ∈ gtb := gk_3 134 rfl rfl
theorem td_sd_hasEnd : (parseMethodDescriptor yX7_hasEnd.desc).map (fun d => d.parameters.length) = some 1 := by decide +kernel
theorem tc_sd_hasEnd : Cond.code yX7_hasEnd cX7_hasEnd 2 (some .boolean) ∈ gtb := gk_4 74 rfl rfl
theorem ti_sd_hasEnd : Cond.instanceMethod yX7_hasEnd ∈ gtb := gk_4 72 rfl rfl
theorem tv_sd_hasEnd : Cond.selects RX7 yX7_hasEnd yX7_hasEnd ∈ gtb := gk_4 73 rfl rfl
theorem td_sd_putIntoBasket : (parseMethodDescriptor yX7_putIntoBasket.desc).map (fun d => d.parameters.length) = some 1 := by decide +kernel
theorem tc_sd_putIntoBasket : Cond.code yX7_putIntoBasket cX7_putIntoBasket 3 none ∈ gtb := gk_4 66 rfl rfl
theorem ti_sd_putIntoBasket : Cond.instanceMethod yX7_putIntoBasket ∈ gtb := gk_4 64 rfl rfl
theorem tv_sd_putIntoBasket : Cond.selects RX7 yX7_putIntoBasket yX7_putIntoBasket ∈ gtb := gk_4 65 rfl rfl
theorem td_sd_takeOutOfBasket : (parseMethodDescriptor yX7_takeOutOfBasket.desc).map (fun d => d.parameters.length) = some 1 := by decide +kernel
theorem tc_sd_takeOutOfBasket : Cond.code yX7_takeOutOfBasket cX7_takeOutOfBasket 4 (some .int) ∈ gtb := gk_4 82 rfl rfl
theorem ti_sd_takeOutOfBasket : Cond.instanceMethod yX7_takeOutOfBasket ∈ gtb := gk_4 80 rfl rfl
theorem tv_sd_takeOutOfBasket : Cond.selects RX7 yX7_takeOutOfBasket yX7_takeOutOfBasket ∈ gtb := gk_4 81 rfl rfl
theorem td_sd_sellFrom : (parseMethodDescriptor yX7_sellFrom.desc).map (fun d => d.parameters.length) = some 3 := by decide +kernel
theorem tc_sd_sellFrom : Cond.code yX7_sellFrom cX7_sellFrom 6 (some .int) ∈ gtb := gk_4 42 rfl rfl
theorem ti_sd_sellFrom : Cond.instanceMethod yX7_sellFrom ∈ gtb := gk_4 40 rfl rfl
theorem tv_sd_sellFrom : Cond.selects RX7 yX7_sellFrom yX7_sellFrom ∈ gtb := gk_4 41 rfl rfl
theorem td_sd_setWords : (parseMethodDescriptor yX7_setWords.desc).map (fun d => d.parameters.length) = some 2 := by decide +kernel
theorem tc_sd_setWords : Cond.code yX7_setWords cX7_setWords 3 none ∈ gtb := gk_4 102 rfl rfl
theorem ti_sd_setWords : Cond.instanceMethod yX7_setWords ∈ gtb := gk_4 101 rfl rfl
theorem tv_sd_setWords : Cond.selects RX7 yX7_setWords yX7_setWords ∈ gtb := gp_2 4 rfl rfl
theorem td_sd_bestBale : (parseMethodDescriptor yX7_bestBale.desc).map (fun d => d.parameters.length) = some 2 := by decide +kernel
theorem tc_sd_bestBale : Cond.code yX7_bestBale cX7_bestBale 10 (some .int) ∈ gtb := gk_4 98 rfl rfl
theorem ti_sd_bestBale : Cond.instanceMethod yX7_bestBale ∈ gtb := gk_4 97 rfl rfl
theorem tv_sd_bestBale : Cond.selects RX7 yX7_bestBale yX7_bestBale ∈ gtb := gp_2 3 rfl rfl
theorem td_sd_fillOrder : (parseMethodDescriptor yX7_fillOrder.desc).map (fun d => d.parameters.length) = some 2 := by decide +kernel
theorem tc_sd_fillOrder : Cond.code yX7_fillOrder cX7_fillOrder 5 (some .int) ∈ gtb := gk_4 94 rfl rfl
theorem ti_sd_fillOrder : Cond.instanceMethod yX7_fillOrder ∈ gtb := gk_4 92 rfl rfl
theorem tv_sd_fillOrder : Cond.selects RX7 yX7_fillOrder yX7_fillOrder ∈ gtb := gk_4 93 rfl rfl
theorem td_sd_draw : (parseMethodDescriptor yX7_draw.desc).map (fun d => d.parameters.length) = some 0 := by decide +kernel
theorem tc_sd_draw : Cond.code yX7_draw cX7_draw 1 (some .int) ∈ gtb := gk_4 142 rfl rfl
theorem ti_sd_draw : Cond.instanceMethod yX7_draw ∈ gtb := gk_4 141 rfl rfl
theorem tv_sd_draw : Cond.selects RX7 yX7_draw yX7_draw ∈ gtb := gp_2 7 rfl rfl
theorem td_sd_runDay : (parseMethodDescriptor yX7_runDay.desc).map (fun d => d.parameters.length) = some 3 := by decide +kernel
theorem tc_sd_runDay : Cond.code yX7_runDay cX7_runDay 6 none ∈ gtb := gk_4 138 rfl rfl
theorem ti_sd_runDay : Cond.instanceMethod yX7_runDay ∈ gtb := gk_4 136 rfl rfl
theorem tv_sd_runDay : Cond.selects RX7 yX7_runDay yX7_runDay ∈ gtb := gk_4 137 rfl rfl
theorem td_tx_append : (parseMethodDescriptor yX8_append.desc).map (fun d => d.parameters.length) = some 1 := by decide +kernel
theorem tc_tx_append : Cond.code yX8_append cX8_append 3 none ∈ gtb := gk_3 15 rfl rfl
theorem ti_tx_append : Cond.instanceMethod yX8_append ∈ gtb := gk_3 13 rfl rfl
theorem tv_tx_append : Cond.selects RX8 yX8_append yX8_append ∈ gtb := gk_3 14 rfl rfl
theorem td_td_knownEighths : (parseMethodDescriptor yX9_knownEighths.desc).map (fun d => d.parameters.length) = some 0 := by decide +kernel
theorem tc_td_knownEighths : Cond.code yX9_knownEighths cX9_knownEighths 3 (some .int) ∈ gtb := gk_4 176 rfl rfl
theorem ti_td_knownEighths : Cond.instanceMethod yX9_knownEighths ∈ gtb := gk_4 174 rfl rfl
theorem tv_td_knownEighths : Cond.selects RX9 yX9_knownEighths yX9_knownEighths ∈ gtb := gk_4 175 rfl rfl
theorem td_wp_takesBales : (parseMethodDescriptor yX10_takesBales.desc).map (fun d => d.parameters.length) = some 1 := by decide +kernel
theorem tc_wp_takesBales : Cond.code yX10_takesBales cX10_takesBales 4 (some .boolean) ∈ gtb := gk_4 219 rfl rfl
theorem ti_wp_takesBales : Cond.instanceMethod yX10_takesBales ∈ gtb := gk_4 218 rfl rfl
theorem tv_wp_takesBales : Cond.selects RX10 yX10_takesBales yX10_takesBales ∈ gtb := gp_2 11 rfl rfl
theorem td_wp_takesWeights : (parseMethodDescriptor yX10_takesWeights.desc).map (fun d => d.parameters.length) = some 1 := by decide +kernel
theorem tc_wp_takesWeights : Cond.code yX10_takesWeights cX10_takesWeights 4 (some .boolean) ∈ gtb := gk_4 223 rfl rfl
theorem ti_wp_takesWeights : Cond.instanceMethod yX10_takesWeights ∈ gtb := gk_4 222 rfl rfl
theorem tv_wp_takesWeights : Cond.selects RX10 yX10_takesWeights yX10_takesWeights ∈ gtb := gp_2 12 rfl rfl
theorem td_wp_takes : (parseMethodDescriptor yX10_takes.desc).map (fun d => d.parameters.length) = some 2 := by decide +kernel
theorem tc_wp_takes : Cond.code yX10_takes cX10_takes 3 (some .boolean) ∈ gtb := gk_4 215 rfl rfl
theorem ti_wp_takes : Cond.instanceMethod yX10_takes ∈ gtb := gk_4 213 rfl rfl
theorem tv_wp_takes : Cond.selects RX10 yX10_takes yX10_takes ∈ gtb := gk_4 214 rfl rfl
theorem td_wp_behind : (parseMethodDescriptor yX10_behind.desc).map (fun d => d.parameters.length) = some 2 := by decide +kernel
theorem tc_wp_behind : Cond.code yX10_behind cX10_behind 3 (some .int) ∈ gtb := gk_4 237 rfl rfl
theorem ti_wp_behind : Cond.instanceMethod yX10_behind ∈ gtb := gk_4 236 rfl rfl
theorem tv_wp_behind : Cond.selects RX10 yX10_behind yX10_behind ∈ gtb := gp_2 14 rfl rfl
theorem td_wp_rest : (parseMethodDescriptor yX10_rest.desc).map (fun d => d.parameters.length) = some 3 := by decide +kernel
theorem tc_wp_rest : Cond.code yX10_rest cX10_rest 4 (some .int) ∈ gtb := gk_4 233 rfl rfl
theorem ti_wp_rest : Cond.instanceMethod yX10_rest ∈ gtb := gk_4 232 rfl rfl
theorem tv_wp_rest : Cond.selects RX10 yX10_rest yX10_rest ∈ gtb := gp_2 13 rfl rfl
theorem td_wp_mean : (parseMethodDescriptor yX10_mean.desc).map (fun d => d.parameters.length) = some 5 := by decide +kernel
theorem tc_wp_mean : Cond.code yX10_mean cX10_mean 14 (some .long) ∈ gtb := gk_5 1 rfl rfl
theorem ts_wp_mean : Cond.static yX10_mean ∈ gtb := gk_5 0 rfl rfl
theorem td_wp_shortenFraction : (parseMethodDescriptor yX10_shortenFraction.desc).map (fun d => d.parameters.length) = some 0 := by decide +kernel
theorem tc_wp_shortenFraction : Cond.code yX10_shortenFraction cX10_shortenFraction 8 none ∈ gtb := gk_5 9 rfl rfl
theorem ti_wp_shortenFraction : Cond.instanceMethod yX10_shortenFraction ∈ gtb := gk_5 8 rfl rfl
theorem tv_wp_shortenFraction : Cond.selects RX10 yX10_shortenFraction yX10_shortenFraction ∈ gtb := gp_2 15 rfl rfl
theorem td_wp_work : (parseMethodDescriptor yX10_work.desc).map (fun d => d.parameters.length) = some 2 := by decide +kernel
theorem tc_wp_work : Cond.code yX10_work cX10_work 8 none ∈ gtb := gk_4 228 rfl rfl
theorem ti_wp_work : Cond.instanceMethod yX10_work ∈ gtb := gk_4 226 rfl rfl
theorem tv_wp_work : Cond.selects RX10 yX10_work yX10_work ∈ gtb := gk_4 227 rfl rfl
theorem td_ce_feed : (parseMethodDescriptor yX11_feed.desc).map (fun d => d.parameters.length) = some 5 := by decide +kernel
theorem tc_ce_feed : Cond.code yX11_feed cX11_feed 6 (some .int) ∈ gtb := gk_3 11 rfl rfl
theorem ti_ce_feed : Cond.instanceMethod yX11_feed ∈ gtb := gk_3 9 rfl rfl
theorem tv_ce_feed : Cond.selects RX11 yX11_feed yX11_feed ∈ gtb := gk_3 10 rfl rfl
theorem td_ce_within : (parseMethodDescriptor yX11_within.desc).map (fun d => d.parameters.length) = some 3 := by decide +kernel
theorem tc_ce_within : Cond.code yX11_within cX11_within 3 (some .boolean) ∈ gtb := gk_3 22 rfl rfl
theorem ts_ce_within : Cond.static yX11_within ∈ gtb := gk_3 21 rfl rfl
theorem td_ce_end : (parseMethodDescriptor yX11_end.desc).map (fun d => d.parameters.length) = some 1 := by decide +kernel
theorem tc_ce_end : Cond.code yX11_end cX11_end 2 (some .int) ∈ gtb := gk_3 19 rfl rfl
theorem ti_ce_end : Cond.instanceMethod yX11_end ∈ gtb := gk_3 17 rfl rfl
theorem tv_ce_end : Cond.selects RX11 yX11_end yX11_end ∈ gtb := gk_3 18 rfl rfl
theorem td_ce_shop : (parseMethodDescriptor yX11_shop.desc).map (fun d => d.parameters.length) = some 0 := by decide +kernel
theorem tc_ce_shop : Cond.code yX11_shop cX11_shop 2 (some .int) ∈ gtb := gk_3 26 rfl rfl
theorem ti_ce_shop : Cond.instanceMethod yX11_shop ∈ gtb := gk_3 24 rfl rfl
theorem tv_ce_shop : Cond.selects RX11 yX11_shop yX11_shop ∈ gtb := gk_3 25 rfl rfl
theorem td_ce_rule : (parseMethodDescriptor yX11_rule.desc).map (fun d => d.parameters.length) = some 0 := by decide +kernel
theorem tc_ce_rule : Cond.code yX11_rule cX11_rule 2 (some .int) ∈ gtb := gk_3 156 rfl rfl
theorem ti_ce_rule : Cond.instanceMethod yX11_rule ∈ gtb := gk_3 154 rfl rfl
theorem tv_ce_rule : Cond.selects RX11 yX11_rule yX11_rule ∈ gtb := gk_3 155 rfl rfl
theorem td_ce_bale : (parseMethodDescriptor yX11_bale.desc).map (fun d => d.parameters.length) = some 2 := by decide +kernel
theorem tc_ce_bale : Cond.code yX11_bale cX11_bale 4 (some .int) ∈ gtb := gk_4 13 rfl rfl
theorem ti_ce_bale : Cond.instanceMethod yX11_bale ∈ gtb := gk_4 11 rfl rfl
theorem tv_ce_bale : Cond.selects RX11 yX11_bale yX11_bale ∈ gtb := gk_4 12 rfl rfl
theorem td_ce_refuse : (parseMethodDescriptor yX11_refuse.desc).map (fun d => d.parameters.length) = some 1 := by decide +kernel
theorem tc_ce_refuse : Cond.code yX11_refuse cX11_refuse 2 (some .int) ∈ gtb := gk_4 38 rfl rfl
theorem ti_ce_refuse : Cond.instanceMethod yX11_refuse ∈ gtb := gk_4 37 rfl rfl
theorem tv_ce_refuse : Cond.selects RX11 yX11_refuse yX11_refuse ∈ gtb := gp_2 1 rfl rfl
theorem td_ce_carryOff : (parseMethodDescriptor yX11_carryOff.desc).map (fun d => d.parameters.length) = some 3 := by decide +kernel
theorem tc_ce_carryOff : Cond.code yX11_carryOff cX11_carryOff 4 (some .int) ∈ gtb := gk_4 34 rfl rfl
theorem ti_ce_carryOff : Cond.instanceMethod yX11_carryOff ∈ gtb := gk_4 33 rfl rfl
theorem tv_ce_carryOff : Cond.selects RX11 yX11_carryOff yX11_carryOff ∈ gtb := gp_2 0 rfl rfl
theorem td_ce_cut : (parseMethodDescriptor yX11_cut.desc).map (fun d => d.parameters.length) = some 2 := by decide +kernel
theorem tc_ce_cut : Cond.code yX11_cut cX11_cut 3 (some .int) ∈ gtb := gk_4 30 rfl rfl
theorem ti_ce_cut : Cond.instanceMethod yX11_cut ∈ gtb := gk_4 28 rfl rfl
theorem tv_ce_cut : Cond.selects RX11 yX11_cut yX11_cut ∈ gtb := gk_4 29 rfl rfl
theorem td_ce_tear : (parseMethodDescriptor yX11_tear.desc).map (fun d => d.parameters.length) = some 2 := by decide +kernel
theorem tc_ce_tear : Cond.code yX11_tear cX11_tear 3 (some .int) ∈ gtb := gk_4 58 rfl rfl
theorem ti_ce_tear : Cond.instanceMethod yX11_tear ∈ gtb := gk_4 56 rfl rfl
theorem tv_ce_tear : Cond.selects RX11 yX11_tear yX11_tear ∈ gtb := gk_4 57 rfl rfl
theorem td_ce_basket : (parseMethodDescriptor yX11_basket.desc).map (fun d => d.parameters.length) = some 1 := by decide +kernel
theorem tc_ce_basket : Cond.code yX11_basket cX11_basket 2 (some .int) ∈ gtb := gk_4 62 rfl rfl
theorem ti_ce_basket : Cond.instanceMethod yX11_basket ∈ gtb := gk_4 60 rfl rfl
theorem tv_ce_basket : Cond.selects RX11 yX11_basket yX11_basket ∈ gtb := gk_4 61 rfl rfl
theorem td_ce_ends : (parseMethodDescriptor yX11_ends.desc).map (fun d => d.parameters.length) = some 2 := by decide +kernel
theorem tc_ce_ends : Cond.code yX11_ends cX11_ends 3 (some .int) ∈ gtb := gk_4 70 rfl rfl
theorem ti_ce_ends : Cond.instanceMethod yX11_ends ∈ gtb := gk_4 68 rfl rfl
theorem tv_ce_ends : Cond.selects RX11 yX11_ends yX11_ends ∈ gtb := gk_4 69 rfl rfl
theorem td_ce_out : (parseMethodDescriptor yX11_out.desc).map (fun d => d.parameters.length) = some 1 := by decide +kernel
theorem tc_ce_out : Cond.code yX11_out cX11_out 2 (some .int) ∈ gtb := gk_4 78 rfl rfl
theorem ti_ce_out : Cond.instanceMethod yX11_out ∈ gtb := gk_4 76 rfl rfl
theorem tv_ce_out : Cond.selects RX11 yX11_out yX11_out ∈ gtb := gk_4 77 rfl rfl
theorem td_ce_hasRule : (parseMethodDescriptor yX11_hasRule.desc).map (fun d => d.parameters.length) = some 1 := by decide +kernel
theorem tc_ce_hasRule : Cond.code yX11_hasRule cX11_hasRule 2 (some .boolean) ∈ gtb := gk_4 90 rfl rfl
theorem ti_ce_hasRule : Cond.instanceMethod yX11_hasRule ∈ gtb := gk_4 89 rfl rfl
theorem tv_ce_hasRule : Cond.selects RX11 yX11_hasRule yX11_hasRule ∈ gtb := gp_2 2 rfl rfl
theorem td_ce_serve : (parseMethodDescriptor yX11_serve.desc).map (fun d => d.parameters.length) = some 2 := by decide +kernel
theorem tc_ce_serve : Cond.code yX11_serve cX11_serve 4 (some .int) ∈ gtb := gk_4 86 rfl rfl
theorem ti_ce_serve : Cond.instanceMethod yX11_serve ∈ gtb := gk_4 84 rfl rfl
theorem tv_ce_serve : Cond.selects RX11 yX11_serve yX11_serve ∈ gtb := gk_4 85 rfl rfl
theorem td_ce_isDay : (parseMethodDescriptor yX11_isDay.desc).map (fun d => d.parameters.length) = some 2 := by decide +kernel
theorem tc_ce_isDay : Cond.code yX11_isDay cX11_isDay 2 (some .boolean) ∈ gtb := gk_4 134 rfl rfl
theorem ts_ce_isDay : Cond.static yX11_isDay ∈ gtb := gk_4 133 rfl rfl
theorem td_ce_day : (parseMethodDescriptor yX11_day.desc).map (fun d => d.parameters.length) = some 3 := by decide +kernel
theorem tc_ce_day : Cond.code yX11_day cX11_day 6 (some .int) ∈ gtb := gk_4 131 rfl rfl
theorem ti_ce_day : Cond.instanceMethod yX11_day ∈ gtb := gk_4 129 rfl rfl
theorem tv_ce_day : Cond.selects RX11 yX11_day yX11_day ∈ gtb := gk_4 130 rfl rfl
theorem td_ce_days : (parseMethodDescriptor yX11_days.desc).map (fun d => d.parameters.length) = some 5 := by decide +kernel
theorem tc_ce_days : Cond.code yX11_days cX11_days 7 (some .int) ∈ gtb := gk_4 151 rfl rfl
theorem ti_ce_days : Cond.instanceMethod yX11_days ∈ gtb := gk_4 149 rfl rfl
theorem tv_ce_days : Cond.selects RX11 yX11_days yX11_days ∈ gtb := gk_4 150 rfl rfl
theorem td_ce_known : (parseMethodDescriptor yX11_known.desc).map (fun d => d.parameters.length) = some 1 := by decide +kernel
theorem tc_ce_known : Cond.code yX11_known cX11_known 3 (some .int) ∈ gtb := gk_4 168 rfl rfl
theorem ti_ce_known : Cond.instanceMethod yX11_known ∈ gtb := gk_4 166 rfl rfl
theorem tv_ce_known : Cond.selects RX11 yX11_known yX11_known ∈ gtb := gk_4 167 rfl rfl
theorem td_ce_all : (parseMethodDescriptor yX11_all.desc).map (fun d => d.parameters.length) = some 1 := by decide +kernel
theorem tc_ce_all : Cond.code yX11_all cX11_all 2 (some .int) ∈ gtb := gk_4 172 rfl rfl
theorem ti_ce_all : Cond.instanceMethod yX11_all ∈ gtb := gk_4 170 rfl rfl
theorem tv_ce_all : Cond.selects RX11 yX11_all yX11_all ∈ gtb := gk_4 171 rfl rfl
theorem td_ce_weight : (parseMethodDescriptor yX11_weight.desc).map (fun d => d.parameters.length) = some 2 := by decide +kernel
theorem tc_ce_weight : Cond.code yX11_weight cX11_weight 4 (some .int) ∈ gtb := gk_4 207 rfl rfl
theorem ti_ce_weight : Cond.instanceMethod yX11_weight ∈ gtb := gk_4 205 rfl rfl
theorem tv_ce_weight : Cond.selects RX11 yX11_weight yX11_weight ∈ gtb := gk_4 206 rfl rfl
theorem td_ce_which : (parseMethodDescriptor yX11_which.desc).map (fun d => d.parameters.length) = some 3 := by decide +kernel
theorem tc_ce_which : Cond.code yX11_which cX11_which 5 (some .long) ∈ gtb := gk_4 211 rfl rfl
theorem ti_ce_which : Cond.instanceMethod yX11_which ∈ gtb := gk_4 209 rfl rfl
theorem tv_ce_which : Cond.selects RX11 yX11_which yX11_which ∈ gtb := gk_4 210 rfl rfl
theorem td_ce_drops : (parseMethodDescriptor yX11_drops.desc).map (fun d => d.parameters.length) = some 2 := by decide +kernel
theorem tc_ce_drops : Cond.code yX11_drops cX11_drops 3 (some .int) ∈ gtb := gk_5 13 rfl rfl
theorem ti_ce_drops : Cond.instanceMethod yX11_drops ∈ gtb := gk_5 11 rfl rfl
theorem tv_ce_drops : Cond.selects RX11 yX11_drops yX11_drops ∈ gtb := gk_5 12 rfl rfl
theorem td_ce_areDrops : (parseMethodDescriptor yX11_areDrops.desc).map (fun d => d.parameters.length) = some 2 := by decide +kernel
theorem tc_ce_areDrops : Cond.code yX11_areDrops cX11_areDrops 2 (some .boolean) ∈ gtb := gk_5 24 rfl rfl
theorem ts_ce_areDrops : Cond.static yX11_areDrops ∈ gtb := gk_5 23 rfl rfl
theorem td_ce_lots : (parseMethodDescriptor yX11_lots.desc).map (fun d => d.parameters.length) = some 2 := by decide +kernel
theorem tc_ce_lots : Cond.code yX11_lots cX11_lots 5 (some .int) ∈ gtb := gk_5 21 rfl rfl
theorem ti_ce_lots : Cond.instanceMethod yX11_lots ∈ gtb := gk_5 19 rfl rfl
theorem tv_ce_lots : Cond.selects RX11 yX11_lots yX11_lots ∈ gtb := gk_5 20 rfl rfl
theorem td_ce_meet : (parseMethodDescriptor yX11_meet.desc).map (fun d => d.parameters.length) = some 4 := by decide +kernel
theorem tc_ce_meet : Cond.code yX11_meet cX11_meet 10 (some .int) ∈ gtb := gk_5 33 rfl rfl
theorem ti_ce_meet : Cond.instanceMethod yX11_meet ∈ gtb := gk_5 31 rfl rfl
theorem tv_ce_meet : Cond.selects RX11 yX11_meet yX11_meet ∈ gtb := gk_5 32 rfl rfl
theorem td_ce_seam : (parseMethodDescriptor yX11_seam.desc).map (fun d => d.parameters.length) = some 3 := by decide +kernel
theorem tc_ce_seam : Cond.code yX11_seam cX11_seam 5 (some .int) ∈ gtb := gk_5 37 rfl rfl
theorem ti_ce_seam : Cond.instanceMethod yX11_seam ∈ gtb := gk_5 35 rfl rfl
theorem tv_ce_seam : Cond.selects RX11 yX11_seam yX11_seam ∈ gtb := gk_5 36 rfl rfl
theorem td_ce_made : (parseMethodDescriptor yX11_made.desc).map (fun d => d.parameters.length) = some 0 := by decide +kernel
theorem tc_ce_made : Cond.code yX11_made cX11_made 1 (some .int) ∈ gtb := gk_5 45 rfl rfl
theorem ti_ce_made : Cond.instanceMethod yX11_made ∈ gtb := gk_5 43 rfl rfl
theorem tv_ce_made : Cond.selects RX11 yX11_made yX11_made ∈ gtb := gk_5 44 rfl rfl
theorem td_ce_madeOf : (parseMethodDescriptor yX11_madeOf.desc).map (fun d => d.parameters.length) = some 3 := by decide +kernel
theorem tc_ce_madeOf : Cond.code yX11_madeOf cX11_madeOf 5 (some .int) ∈ gtb := gk_5 73 rfl rfl
theorem ti_ce_madeOf : Cond.instanceMethod yX11_madeOf ∈ gtb := gk_5 71 rfl rfl
theorem tv_ce_madeOf : Cond.selects RX11 yX11_madeOf yX11_madeOf ∈ gtb := gk_5 72 rfl rfl
theorem td_ce_line : (parseMethodDescriptor yX11_line.desc).map (fun d => d.parameters.length) = some 3 := by decide +kernel
theorem tc_ce_line : Cond.code yX11_line cX11_line 4 (some .int) ∈ gtb := gk_5 86 rfl rfl
theorem ti_ce_line : Cond.instanceMethod yX11_line ∈ gtb := gk_5 84 rfl rfl
theorem tv_ce_line : Cond.selects RX11 yX11_line yX11_line ∈ gtb := gk_5 85 rfl rfl
theorem td_ce_level : (parseMethodDescriptor yX11_level.desc).map (fun d => d.parameters.length) = some 2 := by decide +kernel
theorem tc_ce_level : Cond.code yX11_level cX11_level 4 (some .int) ∈ gtb := gk_5 94 rfl rfl
theorem ti_ce_level : Cond.instanceMethod yX11_level ∈ gtb := gk_5 92 rfl rfl
theorem tv_ce_level : Cond.selects RX11 yX11_level yX11_level ∈ gtb := gk_5 93 rfl rfl
theorem td_ce_sale : (parseMethodDescriptor yX11_sale.desc).map (fun d => d.parameters.length) = some 4 := by decide +kernel
theorem tc_ce_sale : Cond.code yX11_sale cX11_sale 6 (some .int) ∈ gtb := gk_5 98 rfl rfl
theorem ti_ce_sale : Cond.instanceMethod yX11_sale ∈ gtb := gk_5 96 rfl rfl
theorem tv_ce_sale : Cond.selects RX11 yX11_sale yX11_sale ∈ gtb := gk_5 97 rfl rfl
theorem td_ce_roll : (parseMethodDescriptor yX11_roll.desc).map (fun d => d.parameters.length) = some 4 := by decide +kernel
theorem tc_ce_roll : Cond.code yX11_roll cX11_roll 12 (some .int) ∈ gtb := gk_5 116 rfl rfl
theorem ti_ce_roll : Cond.instanceMethod yX11_roll ∈ gtb := gk_5 114 rfl rfl
theorem tv_ce_roll : Cond.selects RX11 yX11_roll yX11_roll ∈ gtb := gk_5 115 rfl rfl
theorem td_ce_entry : (parseMethodDescriptor yX11_entry.desc).map (fun d => d.parameters.length) = some 2 := by decide +kernel
theorem tc_ce_entry : Cond.code yX11_entry cX11_entry 4 (some .int) ∈ gtb := gk_5 125 rfl rfl
theorem ti_ce_entry : Cond.instanceMethod yX11_entry ∈ gtb := gk_5 123 rfl rfl
theorem tv_ce_entry : Cond.selects RX11 yX11_entry yX11_entry ∈ gtb := gk_5 124 rfl rfl
theorem td_ce_rod : (parseMethodDescriptor yX11_rod.desc).map (fun d => d.parameters.length) = some 2 := by decide +kernel
theorem tc_ce_rod : Cond.code yX11_rod cX11_rod 8 (some .int) ∈ gtb := gk_5 130 rfl rfl
theorem ti_ce_rod : Cond.instanceMethod yX11_rod ∈ gtb := gk_5 128 rfl rfl
theorem tv_ce_rod : Cond.selects RX11 yX11_rod yX11_rod ∈ gtb := gk_5 129 rfl rfl
theorem td_ce_seed : (parseMethodDescriptor yX11_seed.desc).map (fun d => d.parameters.length) = some 1 := by decide +kernel
theorem tc_ce_seed : Cond.code yX11_seed cX11_seed 3 (some .int) ∈ gtb := gk_5 134 rfl rfl
theorem ti_ce_seed : Cond.instanceMethod yX11_seed ∈ gtb := gk_5 132 rfl rfl
theorem tv_ce_seed : Cond.selects RX11 yX11_seed yX11_seed ∈ gtb := gk_5 133 rfl rfl
theorem td_ce_status : (parseMethodDescriptor yX11_status.desc).map (fun d => d.parameters.length) = some 1 := by decide +kernel
theorem tc_ce_status : Cond.code yX11_status cX11_status 2 (some .int) ∈ gtb := gk_5 138 rfl rfl
theorem ti_ce_status : Cond.instanceMethod yX11_status ∈ gtb := gk_5 136 rfl rfl
theorem tv_ce_status : Cond.selects RX11 yX11_status yX11_status ∈ gtb := gk_5 137 rfl rfl
theorem td_ce_count : (parseMethodDescriptor yX11_count.desc).map (fun d => d.parameters.length) = some 1 := by decide +kernel
theorem tc_ce_count : Cond.code yX11_count cX11_count 2 (some .int) ∈ gtb := gk_5 142 rfl rfl
theorem ti_ce_count : Cond.instanceMethod yX11_count ∈ gtb := gk_5 140 rfl rfl
theorem tv_ce_count : Cond.selects RX11 yX11_count yX11_count ∈ gtb := gk_5 141 rfl rfl
theorem td_ce_image : (parseMethodDescriptor yX11_image.desc).map (fun d => d.parameters.length) = some 1 := by decide +kernel
theorem tc_ce_image : Cond.code yX11_image cX11_image 2 (some .int) ∈ gtb := gk_5 146 rfl rfl
theorem ti_ce_image : Cond.instanceMethod yX11_image ∈ gtb := gk_5 144 rfl rfl
theorem tv_ce_image : Cond.selects RX11 yX11_image yX11_image ∈ gtb := gk_5 145 rfl rfl
theorem td_ce_back : (parseMethodDescriptor yX11_back.desc).map (fun d => d.parameters.length) = some 1 := by decide +kernel
theorem tc_ce_back : Cond.code yX11_back cX11_back 2 (some .int) ∈ gtb := gk_5 150 rfl rfl
theorem ti_ce_back : Cond.instanceMethod yX11_back ∈ gtb := gk_5 148 rfl rfl
theorem tv_ce_back : Cond.selects RX11 yX11_back yX11_back ∈ gtb := gk_5 149 rfl rfl
theorem td_md_in : (parseMethodDescriptor yX12_in.desc).map (fun d => d.parameters.length) = some 3 := by decide +kernel
theorem tc_md_in : Cond.code yX12_in cX12_in 6 (some .boolean) ∈ gtb := gk_6 211 rfl rfl
theorem ts_md_in : Cond.static yX12_in ∈ gtb := gk_6 210 rfl rfl
theorem td_md_has : (parseMethodDescriptor yX12_has.desc).map (fun d => d.parameters.length) = some 2 := by decide +kernel
theorem tc_md_has : Cond.code yX12_has cX12_has 2 (some .boolean) ∈ gtb := gk_6 189 rfl rfl
theorem ts_md_has : Cond.static yX12_has ∈ gtb := gk_6 188 rfl rfl
theorem td_md_divisor : (parseMethodDescriptor yX12_divisor.desc).map (fun d => d.parameters.length) = some 2 := by decide +kernel
theorem tc_md_divisor : Cond.code yX12_divisor cX12_divisor 10 (some .long) ∈ gtb := gk_8 6 rfl rfl
theorem ts_md_divisor : Cond.static yX12_divisor ∈ gtb := gk_8 5 rfl rfl
theorem td_md_refuses : (parseMethodDescriptor yX12_refuses.desc).map (fun d => d.parameters.length) = some 1 := by decide +kernel
theorem tc_md_refuses : Cond.code yX12_refuses cX12_refuses 2 (some .int) ∈ gtb := gk_7 84 rfl rfl
theorem ti_md_refuses : Cond.instanceMethod yX12_refuses ∈ gtb := gk_7 83 rfl rfl
theorem tv_md_refuses : Cond.selects RX12 yX12_refuses yX12_refuses ∈ gtb := gp_5 4 rfl rfl
theorem td_md_isBale : (parseMethodDescriptor yX12_isBale.desc).map (fun d => d.parameters.length) = some 1 := by decide +kernel
theorem tc_md_isBale : Cond.code yX12_isBale cX12_isBale 2 (some .boolean) ∈ gtb := gk_7 59 rfl rfl
theorem ti_md_isBale : Cond.instanceMethod yX12_isBale ∈ gtb := gk_7 58 rfl rfl
theorem tv_md_isBale : Cond.selects RX12 yX12_isBale yX12_isBale ∈ gtb := gp_4 15 rfl rfl
theorem td_md_flawsIn : (parseMethodDescriptor yX12_flawsIn.desc).map (fun d => d.parameters.length) = some 2 := by decide +kernel
theorem tc_md_flawsIn : Cond.code yX12_flawsIn cX12_flawsIn 5 (some .int) ∈ gtb := gk_7 63 rfl rfl
theorem ti_md_flawsIn : Cond.instanceMethod yX12_flawsIn ∈ gtb := gk_7 62 rfl rfl
theorem tv_md_flawsIn : Cond.selects RX12 yX12_flawsIn yX12_flawsIn ∈ gtb := gp_5 0 rfl rfl
theorem td_md_leftInAll : (parseMethodDescriptor yX12_leftInAll.desc).map (fun d => d.parameters.length) = some 0 := by decide +kernel
theorem tc_md_leftInAll : Cond.code yX12_leftInAll cX12_leftInAll 3 (some .int) ∈ gtb := gk_7 186 rfl rfl
theorem ti_md_leftInAll : Cond.instanceMethod yX12_leftInAll ∈ gtb := gk_7 185 rfl rfl
theorem tv_md_leftInAll : Cond.selects RX12 yX12_leftInAll yX12_leftInAll ∈ gtb := gp_6 3 rfl rfl
theorem td_md_put : (parseMethodDescriptor yX12_put.desc).map (fun d => d.parameters.length) = some 1 := by decide +kernel
theorem tc_md_put : Cond.code yX12_put cX12_put 3 none ∈ gtb := gk_6 138 rfl rfl
theorem ti_md_put : Cond.instanceMethod yX12_put ∈ gtb := gk_6 137 rfl rfl
theorem tv_md_put : Cond.selects RX12 yX12_put yX12_put ∈ gtb := gp_3 5 rfl rfl
theorem td_md_feed : (parseMethodDescriptor yX12_feed.desc).map (fun d => d.parameters.length) = some 5 := by decide +kernel
theorem tc_md_feed : Cond.code yX12_feed cX12_feed 6 (some .int) ∈ gtb := gk_6 134 rfl rfl
theorem ti_md_feed : Cond.instanceMethod yX12_feed ∈ gtb := gk_6 132 rfl rfl
theorem tv_md_feed : Cond.selects RX12 yX12_feed yX12_feed ∈ gtb := gk_6 133 rfl rfl
theorem td_md_end : (parseMethodDescriptor yX12_end.desc).map (fun d => d.parameters.length) = some 1 := by decide +kernel
theorem tc_md_end : Cond.code yX12_end cX12_end 2 (some .int) ∈ gtb := gk_6 142 rfl rfl
theorem ti_md_end : Cond.instanceMethod yX12_end ∈ gtb := gk_6 140 rfl rfl
theorem tv_md_end : Cond.selects RX12 yX12_end yX12_end ∈ gtb := gk_6 141 rfl rfl
theorem td_md_wordOf : (parseMethodDescriptor yX12_wordOf.desc).map (fun d => d.parameters.length) = some 1 := by decide +kernel
theorem tc_md_wordOf : Cond.code yX12_wordOf cX12_wordOf 1 (some (.object "java/lang/String")) ∈ gtb := gk_7 11 rfl rfl
theorem ts_md_wordOf : Cond.static yX12_wordOf ∈ gtb := gk_7 10 rfl rfl
theorem td_md_shopWord : (parseMethodDescriptor yX12_shopWord.desc).map (fun d => d.parameters.length) = some 1 := by decide +kernel
theorem tc_md_shopWord : Cond.code yX12_shopWord cX12_shopWord 1 (some (.object "java/lang/String")) ∈ gtb := gk_6 165 rfl rfl
theorem ts_md_shopWord : Cond.static yX12_shopWord ∈ gtb := gk_6 164 rfl rfl
theorem td_md_fails : (parseMethodDescriptor yX12_fails.desc).map (fun d => d.parameters.length) = some 2 := by decide +kernel
theorem tc_md_fails : Cond.code yX12_fails cX12_fails 3 none ∈ gtb := gk_6 182 rfl rfl
theorem ti_md_fails : Cond.instanceMethod yX12_fails ∈ gtb := gk_6 181 rfl rfl
theorem tv_md_fails : Cond.selects RX12 yX12_fails yX12_fails ∈ gtb := gp_3 11 rfl rfl
theorem td_md_sign : (parseMethodDescriptor yX12_sign.desc).map (fun d => d.parameters.length) = some 0 := by decide +kernel
theorem tc_md_sign : Cond.code yX12_sign cX12_sign 1 (some .int) ∈ gtb := gk_6 162 rfl rfl
theorem ti_md_sign : Cond.instanceMethod yX12_sign ∈ gtb := gk_6 161 rfl rfl
theorem tv_md_sign : Cond.selects RX12 yX12_sign yX12_sign ∈ gtb := gp_3 9 rfl rfl
theorem td_md_blanks : (parseMethodDescriptor yX12_blanks.desc).map (fun d => d.parameters.length) = some 0 := by decide +kernel
theorem tc_md_blanks : Cond.code yX12_blanks cX12_blanks 1 none ∈ gtb := gk_6 158 rfl rfl
theorem ti_md_blanks : Cond.instanceMethod yX12_blanks ∈ gtb := gk_6 157 rfl rfl
theorem tv_md_blanks : Cond.selects RX12 yX12_blanks yX12_blanks ∈ gtb := gp_3 8 rfl rfl
theorem td_md_isDigit : (parseMethodDescriptor yX12_isDigit.desc).map (fun d => d.parameters.length) = some 0 := by decide +kernel
theorem tc_md_isDigit : Cond.code yX12_isDigit cX12_isDigit 1 (some .boolean) ∈ gtb := gk_6 206 rfl rfl
theorem ti_md_isDigit : Cond.instanceMethod yX12_isDigit ∈ gtb := gk_6 205 rfl rfl
theorem tv_md_isDigit : Cond.selects RX12 yX12_isDigit yX12_isDigit ∈ gtb := gp_4 0 rfl rfl
theorem td_md_stood : (parseMethodDescriptor yX12_stood.desc).map (fun d => d.parameters.length) = some 1 := by decide +kernel
theorem tc_md_stood : Cond.code yX12_stood cX12_stood 5 (some .boolean) ∈ gtb := gk_6 176 rfl rfl
theorem ti_md_stood : Cond.instanceMethod yX12_stood ∈ gtb := gk_6 175 rfl rfl
theorem tv_md_stood : Cond.selects RX12 yX12_stood yX12_stood ∈ gtb := gp_3 10 rfl rfl
theorem td_md_takes : (parseMethodDescriptor yX12_takes.desc).map (fun d => d.parameters.length) = some 1 := by decide +kernel
theorem tc_md_takes : Cond.code yX12_takes cX12_takes 3 (some .boolean) ∈ gtb := gk_7 24 rfl rfl
theorem ti_md_takes : Cond.instanceMethod yX12_takes ∈ gtb := gk_7 23 rfl rfl
theorem tv_md_takes : Cond.selects RX12 yX12_takes yX12_takes ∈ gtb := gp_4 8 rfl rfl
theorem td_md_entered : (parseMethodDescriptor yX12_entered.desc).map (fun d => d.parameters.length) = some 2 := by decide +kernel
theorem tc_md_entered : Cond.code yX12_entered cX12_entered 3 none ∈ gtb := gk_7 8 rfl rfl
theorem ti_md_entered : Cond.instanceMethod yX12_entered ∈ gtb := gk_7 7 rfl rfl
theorem tv_md_entered : Cond.selects RX12 yX12_entered yX12_entered ∈ gtb := gp_4 7 rfl rfl
theorem td_md_isCounted : (parseMethodDescriptor yX12_isCounted.desc).map (fun d => d.parameters.length) = some 1 := by decide +kernel
theorem tc_md_isCounted : Cond.code yX12_isCounted cX12_isCounted 2 none ∈ gtb := gk_7 4 rfl rfl
theorem ti_md_isCounted : Cond.instanceMethod yX12_isCounted ∈ gtb := gk_7 3 rfl rfl
theorem tv_md_isCounted : Cond.selects RX12 yX12_isCounted yX12_isCounted ∈ gtb := gp_4 6 rfl rfl
theorem td_md_digits : (parseMethodDescriptor yX12_digits.desc).map (fun d => d.parameters.length) = some 1 := by decide +kernel
theorem tc_md_digits : Cond.code yX12_digits cX12_digits 4 (some .int) ∈ gtb := gk_6 202 rfl rfl
theorem ti_md_digits : Cond.instanceMethod yX12_digits ∈ gtb := gk_6 201 rfl rfl
theorem tv_md_digits : Cond.selects RX12 yX12_digits yX12_digits ∈ gtb := gp_3 15 rfl rfl
theorem td_md_value : (parseMethodDescriptor yX12_value.desc).map (fun d => d.parameters.length) = some 0 := by decide +kernel
theorem tc_md_value : Cond.code yX12_value cX12_value 3 none ∈ gtb := gk_7 0 rfl rfl
theorem ti_md_value : Cond.instanceMethod yX12_value ∈ gtb := gk_6 239 rfl rfl
theorem tv_md_value : Cond.selects RX12 yX12_value yX12_value ∈ gtb := gp_4 5 rfl rfl
theorem td_md_term : (parseMethodDescriptor yX12_term.desc).map (fun d => d.parameters.length) = some 0 := by decide +kernel
theorem tc_md_term : Cond.code yX12_term cX12_term 2 none ∈ gtb := gk_6 236 rfl rfl
theorem ti_md_term : Cond.instanceMethod yX12_term ∈ gtb := gk_6 235 rfl rfl
theorem tv_md_term : Cond.selects RX12 yX12_term yX12_term ∈ gtb := gp_4 4 rfl rfl
theorem td_md_sum : (parseMethodDescriptor yX12_sum.desc).map (fun d => d.parameters.length) = some 0 := by decide +kernel
theorem tc_md_sum : Cond.code yX12_sum cX12_sum 2 none ∈ gtb := gk_6 232 rfl rfl
theorem ti_md_sum : Cond.instanceMethod yX12_sum ∈ gtb := gk_6 231 rfl rfl
theorem tv_md_sum : Cond.selects RX12 yX12_sum yX12_sum ∈ gtb := gp_4 3 rfl rfl
theorem td_md_compared : (parseMethodDescriptor yX12_compared.desc).map (fun d => d.parameters.length) = some 0 := by decide +kernel
theorem tc_md_compared : Cond.code yX12_compared cX12_compared 3 none ∈ gtb := gk_7 41 rfl rfl
theorem ti_md_compared : Cond.instanceMethod yX12_compared ∈ gtb := gk_7 40 rfl rfl
theorem tv_md_compared : Cond.selects RX12 yX12_compared yX12_compared ∈ gtb := gp_4 12 rfl rfl
theorem td_md_top : (parseMethodDescriptor yX12_top.desc).map (fun d => d.parameters.length) = some 0 := by decide +kernel
theorem tc_md_top : Cond.code yX12_top cX12_top 1 (some .int) ∈ gtb := gk_7 49 rfl rfl
theorem ti_md_top : Cond.instanceMethod yX12_top ∈ gtb := gk_7 48 rfl rfl
theorem tv_md_top : Cond.selects RX12 yX12_top yX12_top ∈ gtb := gp_4 14 rfl rfl
theorem td_md_opens : (parseMethodDescriptor yX12_opens.desc).map (fun d => d.parameters.length) = some 1 := by decide +kernel
theorem tc_md_opens : Cond.code yX12_opens cX12_opens 2 none ∈ gtb := gk_7 37 rfl rfl
theorem ti_md_opens : Cond.instanceMethod yX12_opens ∈ gtb := gk_7 36 rfl rfl
theorem tv_md_opens : Cond.selects RX12 yX12_opens yX12_opens ∈ gtb := gp_4 11 rfl rfl
theorem td_md_answers : (parseMethodDescriptor yX12_answers.desc).map (fun d => d.parameters.length) = some 1 := by decide +kernel
theorem tc_md_answers : Cond.code yX12_answers cX12_answers 2 none ∈ gtb := gk_7 45 rfl rfl
theorem ti_md_answers : Cond.instanceMethod yX12_answers ∈ gtb := gk_7 44 rfl rfl
theorem tv_md_answers : Cond.selects RX12 yX12_answers yX12_answers ∈ gtb := gp_4 13 rfl rfl
theorem td_md_fact : (parseMethodDescriptor yX12_fact.desc).map (fun d => d.parameters.length) = some 0 := by decide +kernel
theorem tc_md_fact : Cond.code yX12_fact cX12_fact 1 (some .boolean) ∈ gtb := gk_7 32 rfl rfl
theorem ti_md_fact : Cond.instanceMethod yX12_fact ∈ gtb := gk_7 31 rfl rfl
theorem tv_md_fact : Cond.selects RX12 yX12_fact yX12_fact ∈ gtb := gp_4 10 rfl rfl
theorem td_md_test : (parseMethodDescriptor yX12_test.desc).map (fun d => d.parameters.length) = some 0 := by decide +kernel
theorem tc_md_test : Cond.code yX12_test cX12_test 5 none ∈ gtb := gk_7 28 rfl rfl
theorem ti_md_test : Cond.instanceMethod yX12_test ∈ gtb := gk_7 27 rfl rfl
theorem tv_md_test : Cond.selects RX12 yX12_test yX12_test ∈ gtb := gp_4 9 rfl rfl
theorem td_md_amount : (parseMethodDescriptor yX12_amount.desc).map (fun d => d.parameters.length) = some 2 := by decide +kernel
theorem tc_md_amount : Cond.code yX12_amount cX12_amount 5 (some .int) ∈ gtb := gk_6 197 rfl rfl
theorem ti_md_amount : Cond.instanceMethod yX12_amount ∈ gtb := gk_6 196 rfl rfl
theorem tv_md_amount : Cond.selects RX12 yX12_amount yX12_amount ∈ gtb := gp_3 14 rfl rfl
theorem td_md_shopPart : (parseMethodDescriptor yX12_shopPart.desc).map (fun d => d.parameters.length) = some 1 := by decide +kernel
theorem tc_md_shopPart : Cond.code yX12_shopPart cX12_shopPart 4 none ∈ gtb := gk_6 193 rfl rfl
theorem ti_md_shopPart : Cond.instanceMethod yX12_shopPart ∈ gtb := gk_6 192 rfl rfl
theorem tv_md_shopPart : Cond.selects RX12 yX12_shopPart yX12_shopPart ∈ gtb := gp_3 13 rfl rfl
theorem td_md_isFull : (parseMethodDescriptor yX12_isFull.desc).map (fun d => d.parameters.length) = some 2 := by decide +kernel
theorem tc_md_isFull : Cond.code yX12_isFull cX12_isFull 3 (some .boolean) ∈ gtb := gk_6 186 rfl rfl
theorem ti_md_isFull : Cond.instanceMethod yX12_isFull ∈ gtb := gk_6 185 rfl rfl
theorem tv_md_isFull : Cond.selects RX12 yX12_isFull yX12_isFull ∈ gtb := gp_3 12 rfl rfl
theorem td_md_shopClause : (parseMethodDescriptor yX12_shopClause.desc).map (fun d => d.parameters.length) = some 1 := by decide +kernel
theorem tc_md_shopClause : Cond.code yX12_shopClause cX12_shopClause 4 none ∈ gtb := gk_6 154 rfl rfl
theorem ti_md_shopClause : Cond.instanceMethod yX12_shopClause ∈ gtb := gk_6 153 rfl rfl
theorem tv_md_shopClause : Cond.selects RX12 yX12_shopClause yX12_shopClause ∈ gtb := gp_3 7 rfl rfl
theorem td_md_lay : (parseMethodDescriptor yX12_lay.desc).map (fun d => d.parameters.length) = some 2 := by decide +kernel
theorem tc_md_lay : Cond.code yX12_lay cX12_lay 3 none ∈ gtb := gk_6 218 rfl rfl
theorem ts_md_lay : Cond.static yX12_lay ∈ gtb := gk_6 217 rfl rfl
theorem td_md_goesOn : (parseMethodDescriptor yX12_goesOn.desc).map (fun d => d.parameters.length) = some 0 := by decide +kernel
theorem tc_md_goesOn : Cond.code yX12_goesOn cX12_goesOn 2 (some .boolean) ∈ gtb := gk_6 215 rfl rfl
theorem ti_md_goesOn : Cond.instanceMethod yX12_goesOn ∈ gtb := gk_6 214 rfl rfl
theorem tv_md_goesOn : Cond.selects RX12 yX12_goesOn yX12_goesOn ∈ gtb := gp_4 1 rfl rfl
theorem td_md_starts : (parseMethodDescriptor yX12_starts.desc).map (fun d => d.parameters.length) = some 0 := by decide +kernel
theorem tc_md_starts : Cond.code yX12_starts cX12_starts 1 none ∈ gtb := gk_6 150 rfl rfl
theorem ti_md_starts : Cond.instanceMethod yX12_starts ∈ gtb := gk_6 149 rfl rfl
theorem tv_md_starts : Cond.selects RX12 yX12_starts yX12_starts ∈ gtb := gp_3 6 rfl rfl
theorem td_md_shop : (parseMethodDescriptor yX12_shop.desc).map (fun d => d.parameters.length) = some 0 := by decide +kernel
theorem tc_md_shop : Cond.code yX12_shop cX12_shop 5 (some .int) ∈ gtb := gk_6 146 rfl rfl
theorem ti_md_shop : Cond.instanceMethod yX12_shop ∈ gtb := gk_6 144 rfl rfl
theorem tv_md_shop : Cond.selects RX12 yX12_shop yX12_shop ∈ gtb := gk_6 145 rfl rfl
theorem td_md_ruleClause : (parseMethodDescriptor yX12_ruleClause.desc).map (fun d => d.parameters.length) = some 1 := by decide +kernel
theorem tc_md_ruleClause : Cond.code yX12_ruleClause cX12_ruleClause 5 none ∈ gtb := gk_6 226 rfl rfl
theorem ti_md_ruleClause : Cond.instanceMethod yX12_ruleClause ∈ gtb := gk_6 225 rfl rfl
theorem tv_md_ruleClause : Cond.selects RX12 yX12_ruleClause yX12_ruleClause ∈ gtb := gp_4 2 rfl rfl
theorem td_md_rule : (parseMethodDescriptor yX12_rule.desc).map (fun d => d.parameters.length) = some 0 := by decide +kernel
theorem tc_md_rule : Cond.code yX12_rule cX12_rule 3 (some .int) ∈ gtb := gk_6 222 rfl rfl
theorem ti_md_rule : Cond.instanceMethod yX12_rule ∈ gtb := gk_6 220 rfl rfl
theorem tv_md_rule : Cond.selects RX12 yX12_rule yX12_rule ∈ gtb := gk_6 221 rfl rfl
theorem td_md_isRule : (parseMethodDescriptor yX12_isRule.desc).map (fun d => d.parameters.length) = some 1 := by decide +kernel
theorem tc_md_isRule : Cond.code yX12_isRule cX12_isRule 2 (some .boolean) ∈ gtb := gk_7 124 rfl rfl
theorem ti_md_isRule : Cond.instanceMethod yX12_isRule ∈ gtb := gk_7 123 rfl rfl
theorem tv_md_isRule : Cond.selects RX12 yX12_isRule yX12_isRule ∈ gtb := gp_5 9 rfl rfl
theorem td_md_truth : (parseMethodDescriptor yX12_truth.desc).map (fun d => d.parameters.length) = some 1 := by decide +kernel
theorem tc_md_truth : Cond.code yX12_truth cX12_truth 1 (some .long) ∈ gtb := gk_7 150 rfl rfl
theorem ts_md_truth : Cond.static yX12_truth ∈ gtb := gk_7 149 rfl rfl
theorem td_md_both : (parseMethodDescriptor yX12_both.desc).map (fun d => d.parameters.length) = some 3 := by decide +kernel
theorem tc_md_both : Cond.code yX12_both cX12_both 5 (some .long) ∈ gtb := gk_7 147 rfl rfl
theorem ts_md_both : Cond.static yX12_both ∈ gtb := gk_7 146 rfl rfl
theorem td_md_answer : (parseMethodDescriptor yX12_answer.desc).map (fun d => d.parameters.length) = some 3 := by decide +kernel
theorem tc_md_answer : Cond.code yX12_answer cX12_answer 8 (some .long) ∈ gtb := gk_7 144 rfl rfl
theorem ti_md_answer : Cond.instanceMethod yX12_answer ∈ gtb := gk_7 143 rfl rfl
theorem tv_md_answer : Cond.selects RX12 yX12_answer yX12_answer ∈ gtb := gp_5 14 rfl rfl
theorem td_md_nearest : (parseMethodDescriptor yX12_nearest.desc).map (fun d => d.parameters.length) = some 1 := by decide +kernel
theorem tc_md_nearest : Cond.code yX12_nearest cX12_nearest 5 (some .int) ∈ gtb := gk_7 67 rfl rfl
theorem ti_md_nearest : Cond.instanceMethod yX12_nearest ∈ gtb := gk_7 66 rfl rfl
theorem tv_md_nearest : Cond.selects RX12 yX12_nearest yX12_nearest ∈ gtb := gp_5 1 rfl rfl
theorem td_md_isEnd : (parseMethodDescriptor yX12_isEnd.desc).map (fun d => d.parameters.length) = some 1 := by decide +kernel
theorem tc_md_isEnd : Cond.code yX12_isEnd cX12_isEnd 2 (some .boolean) ∈ gtb := gk_7 71 rfl rfl
theorem ti_md_isEnd : Cond.instanceMethod yX12_isEnd ∈ gtb := gk_7 70 rfl rfl
theorem tv_md_isEnd : Cond.selects RX12 yX12_isEnd yX12_isEnd ∈ gtb := gp_5 2 rfl rfl
theorem td_md_bale : (parseMethodDescriptor yX12_bale.desc).map (fun d => d.parameters.length) = some 2 := by decide +kernel
theorem tc_md_bale : Cond.code yX12_bale cX12_bale 3 (some .int) ∈ gtb := gk_7 55 rfl rfl
theorem ti_md_bale : Cond.instanceMethod yX12_bale ∈ gtb := gk_7 53 rfl rfl
theorem tv_md_bale : Cond.selects RX12 yX12_bale yX12_bale ∈ gtb := gk_7 54 rfl rfl
theorem td_md_taken : (parseMethodDescriptor yX12_taken.desc).map (fun d => d.parameters.length) = some 3 := by decide +kernel
theorem tc_md_taken : Cond.code yX12_taken cX12_taken 4 (some .int) ∈ gtb := gk_7 92 rfl rfl
theorem ti_md_taken : Cond.instanceMethod yX12_taken ∈ gtb := gk_7 91 rfl rfl
theorem tv_md_taken : Cond.selects RX12 yX12_taken yX12_taken ∈ gtb := gp_5 6 rfl rfl
theorem td_md_takes0 : (parseMethodDescriptor yX12_takes0.desc).map (fun d => d.parameters.length) = some 2 := by decide +kernel
theorem tc_md_takes0 : Cond.code yX12_takes0 cX12_takes0 4 none ∈ gtb := gk_7 96 rfl rfl
theorem ti_md_takes0 : Cond.instanceMethod yX12_takes0 ∈ gtb := gk_7 95 rfl rfl
theorem tv_md_takes0 : Cond.selects RX12 yX12_takes0 yX12_takes0 ∈ gtb := gp_5 7 rfl rfl
theorem td_md_cuts : (parseMethodDescriptor yX12_cuts.desc).map (fun d => d.parameters.length) = some 3 := by decide +kernel
theorem tc_md_cuts : Cond.code yX12_cuts cX12_cuts 5 none ∈ gtb := gk_7 88 rfl rfl
theorem ti_md_cuts : Cond.instanceMethod yX12_cuts ∈ gtb := gk_7 87 rfl rfl
theorem tv_md_cuts : Cond.selects RX12 yX12_cuts yX12_cuts ∈ gtb := gp_5 5 rfl rfl
theorem td_md_cutsBy : (parseMethodDescriptor yX12_cutsBy.desc).map (fun d => d.parameters.length) = some 3 := by decide +kernel
theorem tc_md_cutsBy : Cond.code yX12_cutsBy cX12_cutsBy 5 (some .int) ∈ gtb := gk_7 79 rfl rfl
theorem ti_md_cutsBy : Cond.instanceMethod yX12_cutsBy ∈ gtb := gk_7 78 rfl rfl
theorem tv_md_cutsBy : Cond.selects RX12 yX12_cutsBy yX12_cutsBy ∈ gtb := gp_5 3 rfl rfl
theorem td_md_cut : (parseMethodDescriptor yX12_cut.desc).map (fun d => d.parameters.length) = some 2 := by decide +kernel
theorem tc_md_cut : Cond.code yX12_cut cX12_cut 3 (some .int) ∈ gtb := gk_7 75 rfl rfl
theorem ti_md_cut : Cond.instanceMethod yX12_cut ∈ gtb := gk_7 73 rfl rfl
theorem tv_md_cut : Cond.selects RX12 yX12_cut yX12_cut ∈ gtb := gk_7 74 rfl rfl
theorem td_md_tear : (parseMethodDescriptor yX12_tear.desc).map (fun d => d.parameters.length) = some 2 := by decide +kernel
theorem tc_md_tear : Cond.code yX12_tear cX12_tear 3 (some .int) ∈ gtb := gk_7 100 rfl rfl
theorem ti_md_tear : Cond.instanceMethod yX12_tear ∈ gtb := gk_7 98 rfl rfl
theorem tv_md_tear : Cond.selects RX12 yX12_tear yX12_tear ∈ gtb := gk_7 99 rfl rfl
theorem td_md_basket : (parseMethodDescriptor yX12_basket.desc).map (fun d => d.parameters.length) = some 1 := by decide +kernel
theorem tc_md_basket : Cond.code yX12_basket cX12_basket 3 (some .int) ∈ gtb := gk_7 104 rfl rfl
theorem ti_md_basket : Cond.instanceMethod yX12_basket ∈ gtb := gk_7 102 rfl rfl
theorem tv_md_basket : Cond.selects RX12 yX12_basket yX12_basket ∈ gtb := gk_7 103 rfl rfl
theorem td_md_isInBasket : (parseMethodDescriptor yX12_isInBasket.desc).map (fun d => d.parameters.length) = some 1 := by decide +kernel
theorem tc_md_isInBasket : Cond.code yX12_isInBasket cX12_isInBasket 2 (some .boolean) ∈ gtb := gk_7 112 rfl rfl
theorem ti_md_isInBasket : Cond.instanceMethod yX12_isInBasket ∈ gtb := gk_7 111 rfl rfl
theorem tv_md_isInBasket : Cond.selects RX12 yX12_isInBasket yX12_isInBasket ∈ gtb := gp_5 8 rfl rfl
theorem td_md_ends : (parseMethodDescriptor yX12_ends.desc).map (fun d => d.parameters.length) = some 2 := by decide +kernel
theorem tc_md_ends : Cond.code yX12_ends cX12_ends 3 (some .int) ∈ gtb := gk_7 108 rfl rfl
theorem ti_md_ends : Cond.instanceMethod yX12_ends ∈ gtb := gk_7 106 rfl rfl
theorem tv_md_ends : Cond.selects RX12 yX12_ends yX12_ends ∈ gtb := gk_7 107 rfl rfl
theorem td_md_out : (parseMethodDescriptor yX12_out.desc).map (fun d => d.parameters.length) = some 1 := by decide +kernel
theorem tc_md_out : Cond.code yX12_out cX12_out 4 (some .int) ∈ gtb := gk_7 116 rfl rfl
theorem ti_md_out : Cond.instanceMethod yX12_out ∈ gtb := gk_7 114 rfl rfl
theorem tv_md_out : Cond.selects RX12 yX12_out yX12_out ∈ gtb := gk_7 115 rfl rfl
theorem td_md_asks : (parseMethodDescriptor yX12_asks.desc).map (fun d => d.parameters.length) = some 2 := by decide +kernel
theorem tc_md_asks : Cond.code yX12_asks cX12_asks 3 none ∈ gtb := gk_7 132 rfl rfl
theorem ti_md_asks : Cond.instanceMethod yX12_asks ∈ gtb := gk_7 131 rfl rfl
theorem tv_md_asks : Cond.selects RX12 yX12_asks yX12_asks ∈ gtb := gp_5 11 rfl rfl
theorem td_md_holds : (parseMethodDescriptor yX12_holds.desc).map (fun d => d.parameters.length) = some 2 := by decide +kernel
theorem tc_md_holds : Cond.code yX12_holds cX12_holds 3 (some .boolean) ∈ gtb := gk_7 140 rfl rfl
theorem ti_md_holds : Cond.instanceMethod yX12_holds ∈ gtb := gk_7 139 rfl rfl
theorem tv_md_holds : Cond.selects RX12 yX12_holds yX12_holds ∈ gtb := gp_5 13 rfl rfl
theorem td_md_clauseOf : (parseMethodDescriptor yX12_clauseOf.desc).map (fun d => d.parameters.length) = some 1 := by decide +kernel
theorem tc_md_clauseOf : Cond.code yX12_clauseOf cX12_clauseOf 3 (some .int) ∈ gtb := gk_7 136 rfl rfl
theorem ti_md_clauseOf : Cond.instanceMethod yX12_clauseOf ∈ gtb := gk_7 135 rfl rfl
theorem tv_md_clauseOf : Cond.selects RX12 yX12_clauseOf yX12_clauseOf ∈ gtb := gp_5 12 rfl rfl
theorem td_md_isGiven : (parseMethodDescriptor yX12_isGiven.desc).map (fun d => d.parameters.length) = some 1 := by decide +kernel
theorem tc_md_isGiven : Cond.code yX12_isGiven cX12_isGiven 4 (some .boolean) ∈ gtb := gk_7 154 rfl rfl
theorem ti_md_isGiven : Cond.instanceMethod yX12_isGiven ∈ gtb := gk_7 153 rfl rfl
theorem tv_md_isGiven : Cond.selects RX12 yX12_isGiven yX12_isGiven ∈ gtb := gp_5 15 rfl rfl
theorem td_md_serves : (parseMethodDescriptor yX12_serves.desc).map (fun d => d.parameters.length) = some 2 := by decide +kernel
theorem tc_md_serves : Cond.code yX12_serves cX12_serves 10 (some .int) ∈ gtb := gk_7 128 rfl rfl
theorem ti_md_serves : Cond.instanceMethod yX12_serves ∈ gtb := gk_7 127 rfl rfl
theorem tv_md_serves : Cond.selects RX12 yX12_serves yX12_serves ∈ gtb := gp_5 10 rfl rfl
theorem td_md_serve : (parseMethodDescriptor yX12_serve.desc).map (fun d => d.parameters.length) = some 2 := by decide +kernel
theorem tc_md_serve : Cond.code yX12_serve cX12_serve 4 (some .int) ∈ gtb := gk_7 120 rfl rfl
theorem ti_md_serve : Cond.instanceMethod yX12_serve ∈ gtb := gk_7 118 rfl rfl
theorem tv_md_serve : Cond.selects RX12 yX12_serve yX12_serve ∈ gtb := gk_7 119 rfl rfl
theorem td_md_draws : (parseMethodDescriptor yX12_draws.desc).map (fun d => d.parameters.length) = some 1 := by decide +kernel
theorem tc_md_draws : Cond.code yX12_draws cX12_draws 2 (some .int) ∈ gtb := gk_7 172 rfl rfl
theorem ti_md_draws : Cond.instanceMethod yX12_draws ∈ gtb := gk_7 171 rfl rfl
theorem tv_md_draws : Cond.selects RX12 yX12_draws yX12_draws ∈ gtb := gp_6 2 rfl rfl
theorem td_md_goesDay : (parseMethodDescriptor yX12_goesDay.desc).map (fun d => d.parameters.length) = some 3 := by decide +kernel
theorem tc_md_goesDay : Cond.code yX12_goesDay cX12_goesDay 6 (some .int) ∈ gtb := gk_7 168 rfl rfl
theorem ti_md_goesDay : Cond.instanceMethod yX12_goesDay ∈ gtb := gk_7 167 rfl rfl
theorem tv_md_goesDay : Cond.selects RX12 yX12_goesDay yX12_goesDay ∈ gtb := gp_6 1 rfl rfl
theorem td_md_isDay : (parseMethodDescriptor yX12_isDay.desc).map (fun d => d.parameters.length) = some 3 := by decide +kernel
theorem tc_md_isDay : Cond.code yX12_isDay cX12_isDay 4 (some .boolean) ∈ gtb := gk_7 162 rfl rfl
theorem ti_md_isDay : Cond.instanceMethod yX12_isDay ∈ gtb := gk_7 161 rfl rfl
theorem tv_md_isDay : Cond.selects RX12 yX12_isDay yX12_isDay ∈ gtb := gp_6 0 rfl rfl
theorem td_md_day : (parseMethodDescriptor yX12_day.desc).map (fun d => d.parameters.length) = some 3 := by decide +kernel
theorem tc_md_day : Cond.code yX12_day cX12_day 5 (some .int) ∈ gtb := gk_7 158 rfl rfl
theorem ti_md_day : Cond.instanceMethod yX12_day ∈ gtb := gk_7 156 rfl rfl
theorem tv_md_day : Cond.selects RX12 yX12_day yX12_day ∈ gtb := gk_7 157 rfl rfl
theorem td_md_days : (parseMethodDescriptor yX12_days.desc).map (fun d => d.parameters.length) = some 5 := by decide +kernel
theorem tc_md_days : Cond.code yX12_days cX12_days 7 (some .int) ∈ gtb := gk_7 180 rfl rfl
theorem ti_md_days : Cond.instanceMethod yX12_days ∈ gtb := gk_7 178 rfl rfl
theorem tv_md_days : Cond.selects RX12 yX12_days yX12_days ∈ gtb := gk_7 179 rfl rfl
theorem td_md_known : (parseMethodDescriptor yX12_known.desc).map (fun d => d.parameters.length) = some 1 := by decide +kernel
theorem tc_md_known : Cond.code yX12_known cX12_known 2 (some .int) ∈ gtb := gk_7 190 rfl rfl
theorem ti_md_known : Cond.instanceMethod yX12_known ∈ gtb := gk_7 188 rfl rfl
theorem tv_md_known : Cond.selects RX12 yX12_known yX12_known ∈ gtb := gk_7 189 rfl rfl
theorem td_md_sumOf : (parseMethodDescriptor yX12_sumOf.desc).map (fun d => d.parameters.length) = some 1 := by decide +kernel
theorem tc_md_sumOf : Cond.code yX12_sumOf cX12_sumOf 4 (some .int) ∈ gtb := gk_7 199 rfl rfl
theorem ti_md_sumOf : Cond.instanceMethod yX12_sumOf ∈ gtb := gk_7 198 rfl rfl
theorem tv_md_sumOf : Cond.selects RX12 yX12_sumOf yX12_sumOf ∈ gtb := gp_6 4 rfl rfl
theorem td_md_wastedBy : (parseMethodDescriptor yX12_wastedBy.desc).map (fun d => d.parameters.length) = some 2 := by decide +kernel
theorem tc_md_wastedBy : Cond.code yX12_wastedBy cX12_wastedBy 7 (some .int) ∈ gtb := gk_7 204 rfl rfl
theorem ti_md_wastedBy : Cond.instanceMethod yX12_wastedBy ∈ gtb := gk_7 203 rfl rfl
theorem tv_md_wastedBy : Cond.selects RX12 yX12_wastedBy yX12_wastedBy ∈ gtb := gp_6 5 rfl rfl
theorem td_md_all : (parseMethodDescriptor yX12_all.desc).map (fun d => d.parameters.length) = some 1 := by decide +kernel
theorem tc_md_all : Cond.code yX12_all cX12_all 7 (some .int) ∈ gtb := gk_7 194 rfl rfl
theorem ti_md_all : Cond.instanceMethod yX12_all ∈ gtb := gk_7 192 rfl rfl
theorem tv_md_all : Cond.selects RX12 yX12_all yX12_all ∈ gtb := gk_7 193 rfl rfl
theorem td_md_weight : (parseMethodDescriptor yX12_weight.desc).map (fun d => d.parameters.length) = some 2 := by decide +kernel
theorem tc_md_weight : Cond.code yX12_weight cX12_weight 4 (some .int) ∈ gtb := gk_7 208 rfl rfl
theorem ti_md_weight : Cond.instanceMethod yX12_weight ∈ gtb := gk_7 206 rfl rfl
theorem tv_md_weight : Cond.selects RX12 yX12_weight yX12_weight ∈ gtb := gk_7 207 rfl rfl
theorem td_md_findsFew : (parseMethodDescriptor yX12_findsFew.desc).map (fun d => d.parameters.length) = some 0 := by decide +kernel
theorem tc_md_findsFew : Cond.code yX12_findsFew cX12_findsFew 2 (some .boolean) ∈ gtb := gk_7 223 rfl rfl
theorem ti_md_findsFew : Cond.instanceMethod yX12_findsFew ∈ gtb := gk_7 222 rfl rfl
theorem tv_md_findsFew : Cond.selects RX12 yX12_findsFew yX12_findsFew ∈ gtb := gp_6 7 rfl rfl
theorem td_md_placeOf : (parseMethodDescriptor yX12_placeOf.desc).map (fun d => d.parameters.length) = some 1 := by decide +kernel
theorem tc_md_placeOf : Cond.code yX12_placeOf cX12_placeOf 1 (some .int) ∈ gtb := gk_7 235 rfl rfl
theorem ts_md_placeOf : Cond.static yX12_placeOf ∈ gtb := gk_7 234 rfl rfl
theorem td_md_leftIn : (parseMethodDescriptor yX12_leftIn.desc).map (fun d => d.parameters.length) = some 2 := by decide +kernel
theorem tc_md_leftIn : Cond.code yX12_leftIn cX12_leftIn 2 (some .int) ∈ gtb := gk_7 232 rfl rfl
theorem ts_md_leftIn : Cond.static yX12_leftIn ∈ gtb := gk_7 231 rfl rfl
theorem td_md_stateBehind : (parseMethodDescriptor yX12_stateBehind.desc).map (fun d => d.parameters.length) = some 3 := by decide +kernel
theorem tc_md_stateBehind : Cond.code yX12_stateBehind cX12_stateBehind 4 (some .int) ∈ gtb := gk_8 3 rfl rfl
theorem ti_md_stateBehind : Cond.instanceMethod yX12_stateBehind ∈ gtb := gk_8 2 rfl rfl
theorem tv_md_stateBehind : Cond.selects RX12 yX12_stateBehind yX12_stateBehind ∈ gtb := gp_6 10 rfl rfl
theorem td_md_mostFor : (parseMethodDescriptor yX12_mostFor.desc).map (fun d => d.parameters.length) = some 4 := by decide +kernel
theorem tc_md_mostFor : Cond.code yX12_mostFor cX12_mostFor 11 (some .long) ∈ gtb := gk_7 239 rfl rfl
theorem ti_md_mostFor : Cond.instanceMethod yX12_mostFor ∈ gtb := gk_7 238 rfl rfl
theorem tv_md_mostFor : Cond.selects RX12 yX12_mostFor yX12_mostFor ∈ gtb := gp_6 9 rfl rfl
theorem td_md_allWeights : (parseMethodDescriptor yX12_allWeights.desc).map (fun d => d.parameters.length) = some 0 := by decide +kernel
theorem tc_md_allWeights : Cond.code yX12_allWeights cX12_allWeights 3 (some .int) ∈ gtb := gk_7 219 rfl rfl
theorem ti_md_allWeights : Cond.instanceMethod yX12_allWeights ∈ gtb := gk_7 218 rfl rfl
theorem tv_md_allWeights : Cond.selects RX12 yX12_allWeights yX12_allWeights ∈ gtb := gp_6 6 rfl rfl
theorem td_md_fillsMeans : (parseMethodDescriptor yX12_fillsMeans.desc).map (fun d => d.parameters.length) = some 1 := by decide +kernel
theorem tc_md_fillsMeans : Cond.code yX12_fillsMeans cX12_fillsMeans 11 (some .int) ∈ gtb := gk_7 228 rfl rfl
theorem ti_md_fillsMeans : Cond.instanceMethod yX12_fillsMeans ∈ gtb := gk_7 227 rfl rfl
theorem tv_md_fillsMeans : Cond.selects RX12 yX12_fillsMeans yX12_fillsMeans ∈ gtb := gp_6 8 rfl rfl
theorem td_md_which : (parseMethodDescriptor yX12_which.desc).map (fun d => d.parameters.length) = some 3 := by decide +kernel
theorem tc_md_which : Cond.code yX12_which cX12_which 14 (some .long) ∈ gtb := gk_7 214 rfl rfl
theorem ti_md_which : Cond.instanceMethod yX12_which ∈ gtb := gk_7 212 rfl rfl
theorem tv_md_which : Cond.selects RX12 yX12_which yX12_which ∈ gtb := gk_7 213 rfl rfl
theorem td_md_dropsOf : (parseMethodDescriptor yX12_dropsOf.desc).map (fun d => d.parameters.length) = some 2 := by decide +kernel
theorem tc_md_dropsOf : Cond.code yX12_dropsOf cX12_dropsOf 5 (some .int) ∈ gtb := gk_8 14 rfl rfl
theorem ti_md_dropsOf : Cond.instanceMethod yX12_dropsOf ∈ gtb := gk_8 13 rfl rfl
theorem tv_md_dropsOf : Cond.selects RX12 yX12_dropsOf yX12_dropsOf ∈ gtb := gp_6 11 rfl rfl
theorem td_md_drops : (parseMethodDescriptor yX12_drops.desc).map (fun d => d.parameters.length) = some 2 := by decide +kernel
theorem tc_md_drops : Cond.code yX12_drops cX12_drops 3 (some .int) ∈ gtb := gk_8 10 rfl rfl
theorem ti_md_drops : Cond.instanceMethod yX12_drops ∈ gtb := gk_8 8 rfl rfl
theorem tv_md_drops : Cond.selects RX12 yX12_drops yX12_drops ∈ gtb := gk_8 9 rfl rfl
theorem td_md_lots : (parseMethodDescriptor yX12_lots.desc).map (fun d => d.parameters.length) = some 2 := by decide +kernel
theorem tc_md_lots : Cond.code yX12_lots cX12_lots 7 (some .int) ∈ gtb := gk_8 18 rfl rfl
theorem ti_md_lots : Cond.instanceMethod yX12_lots ∈ gtb := gk_8 16 rfl rfl
theorem tv_md_lots : Cond.selects RX12 yX12_lots yX12_lots ∈ gtb := gk_8 17 rfl rfl
theorem td_md_meet : (parseMethodDescriptor yX12_meet.desc).map (fun d => d.parameters.length) = some 4 := by decide +kernel
theorem tc_md_meet : Cond.code yX12_meet cX12_meet 9 (some .int) ∈ gtb := gk_8 23 rfl rfl
theorem ti_md_meet : Cond.instanceMethod yX12_meet ∈ gtb := gk_8 21 rfl rfl
theorem tv_md_meet : Cond.selects RX12 yX12_meet yX12_meet ∈ gtb := gk_8 22 rfl rfl
theorem td_md_isSeam : (parseMethodDescriptor yX12_isSeam.desc).map (fun d => d.parameters.length) = some 4 := by decide +kernel
theorem tc_md_isSeam : Cond.code yX12_isSeam cX12_isSeam 9 (some .boolean) ∈ gtb := gk_8 31 rfl rfl
theorem ti_md_isSeam : Cond.instanceMethod yX12_isSeam ∈ gtb := gk_8 30 rfl rfl
theorem tv_md_isSeam : Cond.selects RX12 yX12_isSeam yX12_isSeam ∈ gtb := gp_6 12 rfl rfl
theorem td_md_seam : (parseMethodDescriptor yX12_seam.desc).map (fun d => d.parameters.length) = some 3 := by decide +kernel
theorem tc_md_seam : Cond.code yX12_seam cX12_seam 5 (some .int) ∈ gtb := gk_8 27 rfl rfl
theorem ti_md_seam : Cond.instanceMethod yX12_seam ∈ gtb := gk_8 25 rfl rfl
theorem tv_md_seam : Cond.selects RX12 yX12_seam yX12_seam ∈ gtb := gk_8 26 rfl rfl
theorem td_md_fillsWorths : (parseMethodDescriptor yX12_fillsWorths.desc).map (fun d => d.parameters.length) = some 1 := by decide +kernel
theorem tc_md_fillsWorths : Cond.code yX12_fillsWorths cX12_fillsWorths 5 none ∈ gtb := gk_8 40 rfl rfl
theorem ti_md_fillsWorths : Cond.instanceMethod yX12_fillsWorths ∈ gtb := gk_8 39 rfl rfl
theorem tv_md_fillsWorths : Cond.selects RX12 yX12_fillsWorths yX12_fillsWorths ∈ gtb := gp_6 13 rfl rfl
theorem td_md_madeOf : (parseMethodDescriptor yX12_madeOf.desc).map (fun d => d.parameters.length) = some 3 := by decide +kernel
theorem tc_md_madeOf : Cond.code yX12_madeOf cX12_madeOf 5 (some .int) ∈ gtb := gk_8 35 rfl rfl
theorem ti_md_madeOf : Cond.instanceMethod yX12_madeOf ∈ gtb := gk_8 33 rfl rfl
theorem tv_md_madeOf : Cond.selects RX12 yX12_madeOf yX12_madeOf ∈ gtb := gk_8 34 rfl rfl
theorem td_md_pairOf : (parseMethodDescriptor yX12_pairOf.desc).map (fun d => d.parameters.length) = some 2 := by decide +kernel
theorem tc_md_pairOf : Cond.code yX12_pairOf cX12_pairOf 4 (some .int) ∈ gtb := gk_8 48 rfl rfl
theorem ti_md_pairOf : Cond.instanceMethod yX12_pairOf ∈ gtb := gk_8 47 rfl rfl
theorem tv_md_pairOf : Cond.selects RX12 yX12_pairOf yX12_pairOf ∈ gtb := gp_6 14 rfl rfl
theorem td_md_made : (parseMethodDescriptor yX12_made.desc).map (fun d => d.parameters.length) = some 0 := by decide +kernel
theorem tc_md_made : Cond.code yX12_made cX12_made 8 (some .int) ∈ gtb := gk_8 44 rfl rfl
theorem ti_md_made : Cond.instanceMethod yX12_made ∈ gtb := gk_8 42 rfl rfl
theorem tv_md_made : Cond.selects RX12 yX12_made yX12_made ∈ gtb := gk_8 43 rfl rfl
theorem td_md_line : (parseMethodDescriptor yX12_line.desc).map (fun d => d.parameters.length) = some 3 := by decide +kernel
theorem tc_md_line : Cond.code yX12_line cX12_line 5 (some .int) ∈ gtb := gk_8 52 rfl rfl
theorem ti_md_line : Cond.instanceMethod yX12_line ∈ gtb := gk_8 50 rfl rfl
theorem tv_md_line : Cond.selects RX12 yX12_line yX12_line ∈ gtb := gk_8 51 rfl rfl
theorem td_md_level : (parseMethodDescriptor yX12_level.desc).map (fun d => d.parameters.length) = some 2 := by decide +kernel
theorem tc_md_level : Cond.code yX12_level cX12_level 3 (some .int) ∈ gtb := gk_8 58 rfl rfl
theorem ti_md_level : Cond.instanceMethod yX12_level ∈ gtb := gk_8 56 rfl rfl
theorem tv_md_level : Cond.selects RX12 yX12_level yX12_level ∈ gtb := gk_8 57 rfl rfl
theorem td_md_coinsBy : (parseMethodDescriptor yX12_coinsBy.desc).map (fun d => d.parameters.length) = some 4 := by decide +kernel
theorem tc_md_coinsBy : Cond.code yX12_coinsBy cX12_coinsBy 7 (some .int) ∈ gtb := gk_8 68 rfl rfl
theorem ti_md_coinsBy : Cond.instanceMethod yX12_coinsBy ∈ gtb := gk_8 67 rfl rfl
theorem tv_md_coinsBy : Cond.selects RX12 yX12_coinsBy yX12_coinsBy ∈ gtb := gp_6 15 rfl rfl
theorem td_md_sale : (parseMethodDescriptor yX12_sale.desc).map (fun d => d.parameters.length) = some 4 := by decide +kernel
theorem tc_md_sale : Cond.code yX12_sale cX12_sale 12 (some .int) ∈ gtb := gk_8 62 rfl rfl
theorem ti_md_sale : Cond.instanceMethod yX12_sale ∈ gtb := gk_8 60 rfl rfl
theorem tv_md_sale : Cond.selects RX12 yX12_sale yX12_sale ∈ gtb := gk_8 61 rfl rfl
theorem td_md_roll : (parseMethodDescriptor yX12_roll.desc).map (fun d => d.parameters.length) = some 4 := by decide +kernel
theorem tc_md_roll : Cond.code yX12_roll cX12_roll 7 (some .int) ∈ gtb := gk_8 72 rfl rfl
theorem ti_md_roll : Cond.instanceMethod yX12_roll ∈ gtb := gk_8 70 rfl rfl
theorem tv_md_roll : Cond.selects RX12 yX12_roll yX12_roll ∈ gtb := gk_8 71 rfl rfl
theorem td_md_entry : (parseMethodDescriptor yX12_entry.desc).map (fun d => d.parameters.length) = some 2 := by decide +kernel
theorem tc_md_entry : Cond.code yX12_entry cX12_entry 3 (some .int) ∈ gtb := gk_8 81 rfl rfl
theorem ti_md_entry : Cond.instanceMethod yX12_entry ∈ gtb := gk_8 79 rfl rfl
theorem tv_md_entry : Cond.selects RX12 yX12_entry yX12_entry ∈ gtb := gk_8 80 rfl rfl
theorem td_md_soldBy : (parseMethodDescriptor yX12_soldBy.desc).map (fun d => d.parameters.length) = some 1 := by decide +kernel
theorem tc_md_soldBy : Cond.code yX12_soldBy cX12_soldBy 4 (some .int) ∈ gtb := gk_8 91 rfl rfl
theorem ti_md_soldBy : Cond.instanceMethod yX12_soldBy ∈ gtb := gk_8 90 rfl rfl
theorem tv_md_soldBy : Cond.selects RX12 yX12_soldBy yX12_soldBy ∈ gtb := gp_7 0 rfl rfl
theorem td_md_rod : (parseMethodDescriptor yX12_rod.desc).map (fun d => d.parameters.length) = some 2 := by decide +kernel
theorem tc_md_rod : Cond.code yX12_rod cX12_rod 8 (some .int) ∈ gtb := gk_8 86 rfl rfl
theorem ti_md_rod : Cond.instanceMethod yX12_rod ∈ gtb := gk_8 84 rfl rfl
theorem tv_md_rod : Cond.selects RX12 yX12_rod yX12_rod ∈ gtb := gk_8 85 rfl rfl
theorem td_md_seed : (parseMethodDescriptor yX12_seed.desc).map (fun d => d.parameters.length) = some 1 := by decide +kernel
theorem tc_md_seed : Cond.code yX12_seed cX12_seed 3 (some .int) ∈ gtb := gk_8 95 rfl rfl
theorem ti_md_seed : Cond.instanceMethod yX12_seed ∈ gtb := gk_8 93 rfl rfl
theorem tv_md_seed : Cond.selects RX12 yX12_seed yX12_seed ∈ gtb := gk_8 94 rfl rfl
theorem td_md_status : (parseMethodDescriptor yX12_status.desc).map (fun d => d.parameters.length) = some 1 := by decide +kernel
theorem tc_md_status : Cond.code yX12_status cX12_status 2 (some .int) ∈ gtb := gk_8 99 rfl rfl
theorem ti_md_status : Cond.instanceMethod yX12_status ∈ gtb := gk_8 97 rfl rfl
theorem tv_md_status : Cond.selects RX12 yX12_status yX12_status ∈ gtb := gk_8 98 rfl rfl
theorem td_md_count : (parseMethodDescriptor yX12_count.desc).map (fun d => d.parameters.length) = some 1 := by decide +kernel
theorem tc_md_count : Cond.code yX12_count cX12_count 2 (some .int) ∈ gtb := gk_8 103 rfl rfl
theorem ti_md_count : Cond.instanceMethod yX12_count ∈ gtb := gk_8 101 rfl rfl
theorem tv_md_count : Cond.selects RX12 yX12_count yX12_count ∈ gtb := gk_8 102 rfl rfl
theorem td_md_carry : (parseMethodDescriptor yX12_carry.desc).map (fun d => d.parameters.length) = some 1 := by decide +kernel
theorem tc_md_carry : Cond.code yX12_carry cX12_carry 3 none ∈ gtb := gk_8 115 rfl rfl
theorem ti_md_carry : Cond.instanceMethod yX12_carry ∈ gtb := gk_8 114 rfl rfl
theorem tv_md_carry : Cond.selects RX12 yX12_carry yX12_carry ∈ gtb := gp_7 2 rfl rfl
theorem td_md_carriesAll : (parseMethodDescriptor yX12_carriesAll.desc).map (fun d => d.parameters.length) = some 2 := by decide +kernel
theorem tc_md_carriesAll : Cond.code yX12_carriesAll cX12_carriesAll 3 none ∈ gtb := gk_8 111 rfl rfl
theorem ti_md_carriesAll : Cond.instanceMethod yX12_carriesAll ∈ gtb := gk_8 110 rfl rfl
theorem tv_md_carriesAll : Cond.selects RX12 yX12_carriesAll yX12_carriesAll ∈ gtb := gp_7 1 rfl rfl
theorem td_md_image : (parseMethodDescriptor yX12_image.desc).map (fun d => d.parameters.length) = some 1 := by decide +kernel
theorem tc_md_image : Cond.code yX12_image cX12_image 2 (some .int) ∈ gtb := gk_8 107 rfl rfl
theorem ti_md_image : Cond.instanceMethod yX12_image ∈ gtb := gk_8 105 rfl rfl
theorem tv_md_image : Cond.selects RX12 yX12_image yX12_image ∈ gtb := gk_8 106 rfl rfl
theorem td_md_back : (parseMethodDescriptor yX12_back.desc).map (fun d => d.parameters.length) = some 1 := by decide +kernel
theorem tc_md_back : Cond.code yX12_back cX12_back 2 (some .int) ∈ gtb := gk_8 119 rfl rfl
theorem ti_md_back : Cond.instanceMethod yX12_back ∈ gtb := gk_8 117 rfl rfl
theorem tv_md_back : Cond.selects RX12 yX12_back yX12_back ∈ gtb := gk_8 118 rfl rfl
theorem tn_js : Cond.initialized RJ0 ∈ gtb := gk_1 14 rfl rfl
theorem tn_jl : Cond.initialized RJ1 ∈ gtb := gk_1 15 rfl rfl
theorem tn_jp : Cond.initialized RJ3 ∈ gtb := gk_1 16 rfl rfl
theorem tn_ji : Cond.initialized RJ6 ∈ gtb := gk_1 19 rfl rfl
theorem tn_fm : Cond.initialized RX0 ∈ gtb := gk_1 9 rfl rfl
theorem tn_kp : Cond.initialized RX1 ∈ gtb := gk_1 10 rfl rfl
theorem tn_wp : Cond.initialized RX10 ∈ gtb := gk_1 11 rfl rfl
theorem tn_ce : Cond.initialized RX11 ∈ gtb := gk_1 1 rfl rfl
theorem tn_md : Cond.initialized RX12 ∈ gtb := gk_1 13 rfl rfl
theorem tn_ru : Cond.initialized RX2 ∈ gtb := gk_1 8 rfl rfl
theorem tn_rr : Cond.initialized RX3 ∈ gtb := gk_1 7 rfl rfl
theorem tn_sp : Cond.initialized RX4 ∈ gtb := gk_1 12 rfl rfl
theorem tn_sh : Cond.initialized RX5 ∈ gtb := gk_1 4 rfl rfl
theorem tn_sr : Cond.initialized RX6 ∈ gtb := gk_1 6 rfl rfl
theorem tn_sd : Cond.initialized RX7 ∈ gtb := gk_1 3 rfl rfl
theorem tn_tx : Cond.initialized RX8 ∈ gtb := gk_1 2 rfl rfl
theorem tn_td : Cond.initialized RX9 ∈ gtb := gk_1 5 rfl rfl
