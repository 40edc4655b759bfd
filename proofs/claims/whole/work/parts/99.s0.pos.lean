/-! ===== constructors: the order in which the cells are made ===== -/
def posL : List (Nat × Nat) := [(0, 0), (1, 0), (1, 1), (2, 0), (3, 0), (3, 1), (3, 2), (3, 3), (3, 4), (3, 6), (3, 7), (3, 12), (3, 13), (3, 14), (4, 0), (4, 1), (4, 3), (4, 4), (4, 5), (4, 7), (2, 3), (2, 4), (2, 5), (2, 6), (2, 14), (5, 0), (6, 0), (6, 1), (6, 2), (6, 3), (6, 4), (6, 6), (6, 7), (6, 12), (6, 13), (6, 14), (7, 0), (7, 1), (7, 3), (7, 4), (7, 5), (7, 7), (5, 3), (5, 4), (5, 5), (5, 6), (5, 14), (0, 4), (0, 5), (0, 6), (0, 8), (20, 0), (21, 0), (21, 1), (21, 2), (21, 3), (21, 4), (21, 6), (21, 7), (21, 12), (21, 13), (21, 14), (20, 2), (20, 3), (22, 0), (23, 0), (23, 1), (23, 3), (23, 4), (23, 5), (23, 6), (23, 8), (22, 4), (24, 0), (24, 1), (24, 2), (24, 3), (25, 0), (25, 1), (25, 2), (26, 0), (26, 1), (26, 2), (26, 4), (26, 5), (26, 6), (27, 0), (27, 1), (8, 0), (9, 0), (9, 1), (9, 2), (9, 3), (9, 4), (9, 6), (9, 7), (9, 12), (9, 13), (9, 14), (10, 0), (10, 1), (10, 3), (10, 4), (10, 5), (10, 7), (8, 3), (8, 4), (8, 5), (8, 6), (8, 14), (11, 0), (12, 0), (12, 1), (12, 2), (12, 3), (12, 4), (12, 6), (12, 7), (12, 12), (12, 13), (12, 14), (13, 0), (13, 1), (13, 3), (13, 4), (13, 5), (13, 7), (11, 3), (11, 4), (11, 5), (11, 6), (11, 14), (14, 0), (15, 0), (15, 1), (15, 2), (15, 3), (15, 4), (15, 6), (15, 7), (15, 12), (15, 13), (15, 14), (16, 0), (16, 1), (16, 3), (16, 4), (16, 5), (16, 7), (14, 3), (14, 4), (14, 5), (14, 6), (14, 14), (17, 0), (18, 0), (18, 1), (18, 2), (18, 3), (18, 4), (18, 6), (18, 7), (18, 12), (18, 13), (18, 14), (19, 0), (19, 1), (19, 3), (19, 4), (19, 5), (19, 7), (17, 3), (17, 4), (17, 5), (17, 6), (17, 14), (28, 0), (28, 1), (28, 3), (28, 4), (28, 5), (28, 6), (28, 8), (29, 0), (29, 1), (29, 3), (29, 4), (29, 5), (29, 6), (29, 8), (30, 0), (30, 1), (30, 3), (30, 4), (30, 5), (30, 6), (30, 8), (31, 0), (31, 1), (31, 3), (31, 4), (31, 5), (31, 6), (31, 8), (32, 0), (32, 1), (32, 3), (32, 4), (32, 5), (32, 6), (32, 8), (33, 0), (33, 1), (33, 3), (33, 4), (33, 5), (33, 6), (33, 8), (34, 0), (34, 2), (34, 3), (34, 4), (34, 5), (34, 6), (34, 7), (34, 8), (34, 9), (34, 10), (34, 11), (34, 12), (34, 13), (34, 14), (34, 15), (34, 16), (34, 17), (34, 18), (34, 19), (34, 20), (34, 21), (34, 22), (34, 23), (34, 24), (34, 25), (34, 26), (34, 27), (34, 28), (34, 29), (34, 30), (34, 31), (34, 32), (34, 44), (34, 45), (34, 46), (34, 47), (34, 48), (34, 49), (34, 50), (34, 51), (34, 52), (34, 53), (34, 54), (34, 55), (34, 56), (34, 57), (34, 58), (34, 59), (34, 60), (34, 61), (34, 62), (34, 64), (34, 65), (34, 66), (34, 67), (34, 68), (34, 69)]
def pos (d : Nat × Nat) : Nat := posL.idxOf d
def adZ (z : Nat) (d : Nat × Nat) : Nat := z + pos d
def ds_8 (o : Nat) : List (Nat × Nat) := (o, 0) :: ((1, 1) :: [])
def ds_5 (o : Nat) : List (Nat × Nat) := (o, 0) :: ((o, 14) :: (o, 13) :: (o, 12) :: (o, 7) :: (o, 6) :: (o, 4) :: (o, 3) :: (o, 2) :: (o, 1) :: [])
def ds_9 (o : Nat) : List (Nat × Nat) := (o, 0) :: ((o, 7) :: (o, 5) :: (o, 4) :: (o, 3) :: (o, 1) :: [])
def ds_7 (o : Nat) : List (Nat × Nat) := (o, 0) :: ((o, 14) :: (o, 6) :: (o, 5) :: (o, 4) :: (o, 3) :: ds_9 (o + 2) ++ (ds_5 (o + 1) ++ ([])))
def ds_6 (o : Nat) : List (Nat × Nat) := (o, 0) :: ((20, 3) :: (20, 2) :: ds_5 (21) ++ ([]))
def ds_2 (o : Nat) : List (Nat × Nat) := (o, 0) :: ((o, 8) :: (o, 6) :: (o, 5) :: (o, 4) :: (o, 3) :: (o, 1) :: [])
def ds_3 (o : Nat) : List (Nat × Nat) := (o, 0) :: ((22, 4) :: ds_2 (23) ++ ([]))
def ds_0 (o : Nat) : List (Nat × Nat) := (o, 0) :: ((24, 3) :: (24, 2) :: (24, 1) :: [])
def ds_1 (o : Nat) : List (Nat × Nat) := (o, 0) :: ((25, 2) :: (25, 1) :: [])
def ds_10 (o : Nat) : List (Nat × Nat) := (o, 0) :: ((26, 6) :: (26, 5) :: (26, 4) :: (26, 2) :: (26, 1) :: [])
def ds_4 (o : Nat) : List (Nat × Nat) := (o, 0) :: ((27, 1) :: [])
def ds_11 (o : Nat) : List (Nat × Nat) := (o, 0) :: (ds_2 33 ++ (ds_2 32 ++ (ds_2 31 ++ (ds_2 30 ++ (ds_2 29 ++ (ds_2 28 ++ (ds_7 17 ++ (ds_7 14 ++ (ds_7 11 ++ (ds_7 8 ++ ((0, 6) :: (0, 4) :: (ds_4 (27) ++ (ds_10 (26) ++ (ds_1 (25) ++ (ds_0 (24) ++ (ds_3 (22) ++ (ds_6 (20) ++ ((0, 8) :: (0, 5) :: ds_7 (5) ++ (ds_7 (2) ++ (ds_8 (1) ++ ([])))))))))))))))))))))
def ds_12 (o : Nat) : List (Nat × Nat) := (o, 0) :: ((34, 69) :: (34, 68) :: (34, 67) :: (34, 66) :: (34, 65) :: (34, 64) :: (34, 62) :: (34, 61) :: (34, 60) :: (34, 59) :: (34, 58) :: (34, 57) :: (34, 56) :: (34, 55) :: (34, 54) :: (34, 53) :: (34, 52) :: (34, 51) :: (34, 50) :: (34, 49) :: (34, 48) :: (34, 47) :: (34, 46) :: (34, 45) :: (34, 44) :: (34, 32) :: (34, 31) :: (34, 30) :: (34, 29) :: (34, 28) :: (34, 27) :: (34, 26) :: (34, 25) :: (34, 24) :: (34, 23) :: (34, 22) :: (34, 21) :: (34, 20) :: (34, 19) :: (34, 18) :: (34, 17) :: (34, 16) :: (34, 15) :: (34, 14) :: (34, 13) :: (34, 12) :: (34, 11) :: (34, 10) :: (34, 9) :: (34, 8) :: (34, 7) :: (34, 6) :: (34, 5) :: (34, 4) :: (34, 3) :: (34, 2) :: [])
theorem ps_0 : ∀ o, o < 35 → cls o = 0 → (pos (o, 1) = pos (o, 0) + 1 ∧ pos (o, 2) = pos (o, 0) + 2 ∧ pos (o, 3) = pos (o, 0) + 3) := by decide +kernel
theorem pd_0 : ∀ o, o < 35 → cls o = 0 → ∀ d, d ∈ ds_0 o → pos (o, 0) ≤ pos d ∧ pos d ≤ pos (o, 0) + 3 := by decide +kernel
theorem ps_1 : ∀ o, o < 35 → cls o = 1 → (pos (o, 1) = pos (o, 0) + 1 ∧ pos (o, 2) = pos (o, 0) + 2) := by decide +kernel
theorem pd_1 : ∀ o, o < 35 → cls o = 1 → ∀ d, d ∈ ds_1 o → pos (o, 0) ≤ pos d ∧ pos d ≤ pos (o, 0) + 2 := by decide +kernel
theorem ps_2 : ∀ o, o < 35 → cls o = 2 → (pos (o, 1) = pos (o, 0) + 1 ∧ pos (o, 3) = pos (o, 0) + 2 ∧ pos (o, 4) = pos (o, 0) + 3 ∧ pos (o, 5) = pos (o, 0) + 4 ∧ pos (o, 6) = pos (o, 0) + 5 ∧ pos (o, 8) = pos (o, 0) + 6) := by decide +kernel
theorem pd_2 : ∀ o, o < 35 → cls o = 2 → ∀ d, d ∈ ds_2 o → pos (o, 0) ≤ pos d ∧ pos d ≤ pos (o, 0) + 6 := by decide +kernel
theorem ps_3 : ∀ o, o < 35 → cls o = 3 → (pos (23, 0) = pos (o, 0) + 1 ∧ pos (o, 4) = pos (o, 0) + 8) := by decide +kernel
theorem pd_3 : ∀ o, o < 35 → cls o = 3 → ∀ d, d ∈ ds_3 o → pos (o, 0) ≤ pos d ∧ pos d ≤ pos (o, 0) + 8 := by decide +kernel
theorem ps_4 : ∀ o, o < 35 → cls o = 4 → (pos (o, 1) = pos (o, 0) + 1) := by decide +kernel
theorem pd_4 : ∀ o, o < 35 → cls o = 4 → ∀ d, d ∈ ds_4 o → pos (o, 0) ≤ pos d ∧ pos d ≤ pos (o, 0) + 1 := by decide +kernel
theorem ps_5 : ∀ o, o < 35 → cls o = 5 → (pos (o, 1) = pos (o, 0) + 1 ∧ pos (o, 2) = pos (o, 0) + 2 ∧ pos (o, 3) = pos (o, 0) + 3 ∧ pos (o, 4) = pos (o, 0) + 4 ∧ pos (o, 6) = pos (o, 0) + 5 ∧ pos (o, 7) = pos (o, 0) + 6 ∧ pos (o, 12) = pos (o, 0) + 7 ∧ pos (o, 13) = pos (o, 0) + 8 ∧ pos (o, 14) = pos (o, 0) + 9) := by decide +kernel
theorem pd_5 : ∀ o, o < 35 → cls o = 5 → ∀ d, d ∈ ds_5 o → pos (o, 0) ≤ pos d ∧ pos d ≤ pos (o, 0) + 9 := by decide +kernel
theorem ps_6 : ∀ o, o < 35 → cls o = 6 → (pos (21, 0) = pos (o, 0) + 1 ∧ pos (o, 2) = pos (o, 0) + 11 ∧ pos (o, 3) = pos (o, 0) + 12) := by decide +kernel
theorem pd_6 : ∀ o, o < 35 → cls o = 6 → ∀ d, d ∈ ds_6 o → pos (o, 0) ≤ pos d ∧ pos d ≤ pos (o, 0) + 12 := by decide +kernel
theorem ps_7 : ∀ o, o < 35 → cls o = 7 → (pos (o + 1, 0) = pos (o, 0) + 1 ∧ pos (o + 2, 0) = pos (o, 0) + 11 ∧ pos (o, 3) = pos (o, 0) + 17 ∧ pos (o, 4) = pos (o, 0) + 18 ∧ pos (o, 5) = pos (o, 0) + 19 ∧ pos (o, 6) = pos (o, 0) + 20 ∧ pos (o, 14) = pos (o, 0) + 21) := by decide +kernel
theorem pd_7 : ∀ o, o < 35 → cls o = 7 → ∀ d, d ∈ ds_7 o → pos (o, 0) ≤ pos d ∧ pos d ≤ pos (o, 0) + 21 := by decide +kernel
theorem ps_8 : ∀ o, o < 35 → cls o = 8 → (pos (o, 1) = pos (o, 0) + 1) := by decide +kernel
theorem pd_8 : ∀ o, o < 35 → cls o = 8 → ∀ d, d ∈ ds_8 o → pos (o, 0) ≤ pos d ∧ pos d ≤ pos (o, 0) + 1 := by decide +kernel
theorem ps_9 : ∀ o, o < 35 → cls o = 9 → (pos (o, 1) = pos (o, 0) + 1 ∧ pos (o, 3) = pos (o, 0) + 2 ∧ pos (o, 4) = pos (o, 0) + 3 ∧ pos (o, 5) = pos (o, 0) + 4 ∧ pos (o, 7) = pos (o, 0) + 5) := by decide +kernel
theorem pd_9 : ∀ o, o < 35 → cls o = 9 → ∀ d, d ∈ ds_9 o → pos (o, 0) ≤ pos d ∧ pos d ≤ pos (o, 0) + 5 := by decide +kernel
theorem ps_10 : ∀ o, o < 35 → cls o = 10 → (pos (o, 1) = pos (o, 0) + 1 ∧ pos (o, 2) = pos (o, 0) + 2 ∧ pos (o, 4) = pos (o, 0) + 3 ∧ pos (o, 5) = pos (o, 0) + 4 ∧ pos (o, 6) = pos (o, 0) + 5) := by decide +kernel
theorem pd_10 : ∀ o, o < 35 → cls o = 10 → ∀ d, d ∈ ds_10 o → pos (o, 0) ≤ pos d ∧ pos d ≤ pos (o, 0) + 5 := by decide +kernel
theorem ps_11_1_0 : pos (1, 0) = pos (0, 0) + 1 := by decide +kernel
theorem ps_11_2_0 : pos (2, 0) = pos (0, 0) + 3 := by decide +kernel
theorem ps_11_5_0 : pos (5, 0) = pos (0, 0) + 25 := by decide +kernel
theorem ps_11_0_4 : pos (0, 4) = pos (0, 0) + 47 := by decide +kernel
theorem ps_11_0_5 : pos (0, 5) = pos (0, 0) + 48 := by decide +kernel
theorem ps_11_0_6 : pos (0, 6) = pos (0, 0) + 49 := by decide +kernel
theorem ps_11_0_8 : pos (0, 8) = pos (0, 0) + 50 := by decide +kernel
theorem ps_11_20_0 : pos (20, 0) = pos (0, 0) + 51 := by decide +kernel
theorem ps_11_22_0 : pos (22, 0) = pos (0, 0) + 64 := by decide +kernel
theorem ps_11_24_0 : pos (24, 0) = pos (0, 0) + 73 := by decide +kernel
theorem ps_11_25_0 : pos (25, 0) = pos (0, 0) + 77 := by decide +kernel
theorem ps_11_26_0 : pos (26, 0) = pos (0, 0) + 80 := by decide +kernel
theorem ps_11_27_0 : pos (27, 0) = pos (0, 0) + 86 := by decide +kernel
theorem ps_11_8_0 : pos (8, 0) = pos (0, 0) + 88 := by decide +kernel
theorem ps_11_11_0 : pos (11, 0) = pos (0, 0) + 110 := by decide +kernel
theorem ps_11_14_0 : pos (14, 0) = pos (0, 0) + 132 := by decide +kernel
theorem ps_11_17_0 : pos (17, 0) = pos (0, 0) + 154 := by decide +kernel
theorem ps_11_28_0 : pos (28, 0) = pos (0, 0) + 176 := by decide +kernel
theorem ps_11_29_0 : pos (29, 0) = pos (0, 0) + 183 := by decide +kernel
theorem ps_11_30_0 : pos (30, 0) = pos (0, 0) + 190 := by decide +kernel
theorem ps_11_31_0 : pos (31, 0) = pos (0, 0) + 197 := by decide +kernel
theorem ps_11_32_0 : pos (32, 0) = pos (0, 0) + 204 := by decide +kernel
theorem ps_11_33_0 : pos (33, 0) = pos (0, 0) + 211 := by decide +kernel
theorem pd_11 : ∀ o, o < 35 → cls o = 11 → ∀ d, d ∈ ds_11 o → pos (o, 0) ≤ pos d ∧ pos d ≤ pos (o, 0) + 217 := by decide +kernel
theorem ps_12_34_2 : pos (34, 2) = pos (34, 0) + 1 := by decide +kernel
theorem ps_12_34_3 : pos (34, 3) = pos (34, 0) + 2 := by decide +kernel
theorem ps_12_34_4 : pos (34, 4) = pos (34, 0) + 3 := by decide +kernel
theorem ps_12_34_5 : pos (34, 5) = pos (34, 0) + 4 := by decide +kernel
theorem ps_12_34_6 : pos (34, 6) = pos (34, 0) + 5 := by decide +kernel
theorem ps_12_34_7 : pos (34, 7) = pos (34, 0) + 6 := by decide +kernel
theorem ps_12_34_8 : pos (34, 8) = pos (34, 0) + 7 := by decide +kernel
theorem ps_12_34_9 : pos (34, 9) = pos (34, 0) + 8 := by decide +kernel
theorem ps_12_34_10 : pos (34, 10) = pos (34, 0) + 9 := by decide +kernel
theorem ps_12_34_11 : pos (34, 11) = pos (34, 0) + 10 := by decide +kernel
theorem ps_12_34_12 : pos (34, 12) = pos (34, 0) + 11 := by decide +kernel
theorem ps_12_34_13 : pos (34, 13) = pos (34, 0) + 12 := by decide +kernel
theorem ps_12_34_14 : pos (34, 14) = pos (34, 0) + 13 := by decide +kernel
theorem ps_12_34_15 : pos (34, 15) = pos (34, 0) + 14 := by decide +kernel
theorem ps_12_34_16 : pos (34, 16) = pos (34, 0) + 15 := by decide +kernel
theorem ps_12_34_17 : pos (34, 17) = pos (34, 0) + 16 := by decide +kernel
theorem ps_12_34_18 : pos (34, 18) = pos (34, 0) + 17 := by decide +kernel
theorem ps_12_34_19 : pos (34, 19) = pos (34, 0) + 18 := by decide +kernel
theorem ps_12_34_20 : pos (34, 20) = pos (34, 0) + 19 := by decide +kernel
theorem ps_12_34_21 : pos (34, 21) = pos (34, 0) + 20 := by decide +kernel
theorem ps_12_34_22 : pos (34, 22) = pos (34, 0) + 21 := by decide +kernel
theorem ps_12_34_23 : pos (34, 23) = pos (34, 0) + 22 := by decide +kernel
theorem ps_12_34_24 : pos (34, 24) = pos (34, 0) + 23 := by decide +kernel
theorem ps_12_34_25 : pos (34, 25) = pos (34, 0) + 24 := by decide +kernel
theorem ps_12_34_26 : pos (34, 26) = pos (34, 0) + 25 := by decide +kernel
theorem ps_12_34_27 : pos (34, 27) = pos (34, 0) + 26 := by decide +kernel
theorem ps_12_34_28 : pos (34, 28) = pos (34, 0) + 27 := by decide +kernel
theorem ps_12_34_29 : pos (34, 29) = pos (34, 0) + 28 := by decide +kernel
theorem ps_12_34_30 : pos (34, 30) = pos (34, 0) + 29 := by decide +kernel
theorem ps_12_34_31 : pos (34, 31) = pos (34, 0) + 30 := by decide +kernel
theorem ps_12_34_32 : pos (34, 32) = pos (34, 0) + 31 := by decide +kernel
theorem ps_12_34_44 : pos (34, 44) = pos (34, 0) + 32 := by decide +kernel
theorem ps_12_34_45 : pos (34, 45) = pos (34, 0) + 33 := by decide +kernel
theorem ps_12_34_46 : pos (34, 46) = pos (34, 0) + 34 := by decide +kernel
theorem ps_12_34_47 : pos (34, 47) = pos (34, 0) + 35 := by decide +kernel
theorem ps_12_34_48 : pos (34, 48) = pos (34, 0) + 36 := by decide +kernel
theorem ps_12_34_49 : pos (34, 49) = pos (34, 0) + 37 := by decide +kernel
theorem ps_12_34_50 : pos (34, 50) = pos (34, 0) + 38 := by decide +kernel
theorem ps_12_34_51 : pos (34, 51) = pos (34, 0) + 39 := by decide +kernel
theorem ps_12_34_52 : pos (34, 52) = pos (34, 0) + 40 := by decide +kernel
theorem ps_12_34_53 : pos (34, 53) = pos (34, 0) + 41 := by decide +kernel
theorem ps_12_34_54 : pos (34, 54) = pos (34, 0) + 42 := by decide +kernel
theorem ps_12_34_55 : pos (34, 55) = pos (34, 0) + 43 := by decide +kernel
theorem ps_12_34_56 : pos (34, 56) = pos (34, 0) + 44 := by decide +kernel
theorem ps_12_34_57 : pos (34, 57) = pos (34, 0) + 45 := by decide +kernel
theorem ps_12_34_58 : pos (34, 58) = pos (34, 0) + 46 := by decide +kernel
theorem ps_12_34_59 : pos (34, 59) = pos (34, 0) + 47 := by decide +kernel
theorem ps_12_34_60 : pos (34, 60) = pos (34, 0) + 48 := by decide +kernel
theorem ps_12_34_61 : pos (34, 61) = pos (34, 0) + 49 := by decide +kernel
theorem ps_12_34_62 : pos (34, 62) = pos (34, 0) + 50 := by decide +kernel
theorem ps_12_34_64 : pos (34, 64) = pos (34, 0) + 51 := by decide +kernel
theorem ps_12_34_65 : pos (34, 65) = pos (34, 0) + 52 := by decide +kernel
theorem ps_12_34_66 : pos (34, 66) = pos (34, 0) + 53 := by decide +kernel
theorem ps_12_34_67 : pos (34, 67) = pos (34, 0) + 54 := by decide +kernel
theorem ps_12_34_68 : pos (34, 68) = pos (34, 0) + 55 := by decide +kernel
theorem ps_12_34_69 : pos (34, 69) = pos (34, 0) + 56 := by decide +kernel
theorem pd_12 : ∀ o, o < 35 → cls o = 12 → ∀ d, d ∈ ds_12 o → pos (o, 0) ≤ pos d ∧ pos d ≤ pos (o, 0) + 56 := by decide +kernel
def nstQ : List (String × (Nat × (MethodName × String))) := [(RX11, 9, yX8_init, "ClothEnds"), (RX11, 18, yX7_init, "ClothEnds"), (RX11, 46, yX6_init, "ClothEnds"), (RX11, 53, yX3_init, "ClothEnds"), (RX11, 60, yX0_init, "ClothEnds"), (RX11, 67, yX1_init, "ClothEnds"), (RX11, 74, yX10_init, "ClothEnds"), (RX11, 81, yX4_init, "ClothEnds"), (RX11, 86, yX2_init, "ClothEnds"), (RX7, 11, yX5_init, "ClothEnds"), (RX7, 20, yX9_init, "ClothEnds"), (RX6, 11, yX5_init, "ClothEnds"), (RX3, 11, yX2_init, "ClothEnds")]
