/-! ===== the start: what the tables and the Statement say of it ===== -/
theorem tb_in {L : List Cond} (ps : List Nat) (h : L = ps.filterMap (fun i => lw_tbl[i]?)) : ∀ w ∈ L, w ∈ lw_tbl := by
  intro w hw
  rw [h] at hw
  obtain ⟨i, -, hi⟩ := List.mem_filterMap.mp hw
  exact List.mem_of_getElem? hi
def swL : List Cond := [.laysStatic "ClothEnds$ShopReader" "MOST_TOLD" "[I", .laysStatic "ClothEnds$ShopReader" "NUMBERS" "[I", .laysStatic "ClothEnds$ShopReader" "LEAST" "[I", .laysStatic "ClothEnds$ShopReader" "MOST" "[I", .laysStatic "java/lang/String" "COMPACT_STRINGS" "Z", .laysStatic "jdk/internal/util/Preconditions" "SIOOBE_FORMATTER" "Ljava/util/function/BiFunction;", .initialized "ClothEnds$ShopReader", .initialized "java/lang/String", .initialized "jdk/internal/util/Preconditions", .arrayClass .int, .arrayClass .long, .arrayClass .boolean, .arrayClass .byte, .arrayOver (.object "ClothEnds$Stand"), .arrayOver (.object "ClothEnds$Rule")]
set_option maxRecDepth 20000 in
theorem sw_in : ∀ w ∈ swL, w ∈ lw_tbl := tb_in [679, 681, 688, 694, 636, 652, 105, 113, 115, 146, 360, 383, 731, 361, 363] (by decide +kernel)
set_option maxRecDepth 20000 in
theorem in_in : ∀ w ∈ vwCl.map (fun r => Cond.instantiable r.1 r.2.2), w ∈ lw_tbl := tb_in [445, 461, 391, 385, 523, 154, 365, 148, 128, 255, 486, 120, 1211] (by decide +kernel)
set_option maxRecDepth 20000 in
theorem ns_in : ∀ w ∈ nstQ.map (fun q => Cond.methodLinkNest q.1 q.2.1 q.2.2.1 q.2.2.2), w ∈ lw_tbl := tb_in [129, 149, 366, 386, 446, 462, 487, 524, 543, 155, 256, 371, 392] (by decide +kernel)
set_option maxRecDepth 20000 in
theorem sr_in : ∀ w ∈ strL.map (fun e => Cond.stringRef e.1 e.2.1 e.2.2.1), w ∈ lw_tbl := tb_in [622, 749, 824, 814, 774, 788, 1551, 1552, 1553, 1554, 1555, 1556, 1557, 1465, 1558, 1466, 1467, 1468, 1469, 1470, 1471, 1572, 1589, 1590, 1526, 1527, 1559] (by decide +kernel)
/-! the constants by number -/
def strQ : List (String × Nat) := [("ClothEnds$ShopReader", 55), ("ClothEnds$RuleReader", 52), ("ClothEnds$RuleReader", 120), ("ClothEnds$RuleReader", 134), ("ClothEnds$RuleReader", 108), ("ClothEnds$RuleReader", 72), ("ClothEndsModel", 210), ("ClothEndsModel", 214), ("ClothEndsModel", 216), ("ClothEndsModel", 218), ("ClothEndsModel", 220), ("ClothEndsModel", 222), ("ClothEndsModel", 224), ("ClothEndsModel", 357), ("ClothEndsModel", 359), ("ClothEndsModel", 200), ("ClothEndsModel", 201), ("ClothEndsModel", 203), ("ClothEndsModel", 205), ("ClothEndsModel", 207), ("ClothEndsModel", 208), ("ClothEndsModel", 209), ("ClothEndsModel", 212), ("ClothEndsModel", 320), ("ClothEndsModel", 322)]
def strT (q : Nat) : Term := .string (strQ.getD ((q - 10) / 2) ("", 0)).1 (strQ.getD ((q - 10) / 2) ("", 0)).2
def statN (q : Nat) : String := match q with
  | 1 => "MOST_TOLD"
  | 2 => "NUMBERS"
  | 3 => "LEAST"
  | _ => "MOST"
def ctm (q : Nat) : Term := if q < 5 then .static "ClothEnds$ShopReader" (statN q) "[I" else if q % 2 = 0 then strT q else .field (strT q) "java/lang/String" "value" "[B"
def cty (q : Nat) : FieldType := if q < 5 then .int else .byte
def ndA (q : Nat) : List Cond := .arrayOf (ctm q) (cty q) :: .eq (.length (ctm q)) (.int (Int32.ofNat (clen q))) :: (List.range (clen q)).map (fun j : Nat => .eq (.elem (ctm q) (.int (Int32.ofNat j))) (.int (iI (cval q (j : Int)))))
def ndS (q : Nat) : List Cond := .exactly (ctm q) "java/lang/String" :: .eq (.field (ctm q) "java/lang/String" "coder" "B") (.int 0) :: ndA (q + 1)
def evq : List Nat := (List.range 25).map (fun i => 10 + 2 * i)
def ndL : List Cond := [1, 2, 3, 4].flatMap ndA ++ evq.flatMap ndS
set_option maxRecDepth 20000 in
theorem ndL_sub : ndL.isSublist (flatC (Jvm.Cond.and given_1 narrow_1)) = true := by decide +kernel
theorem ndL_in {args : Array Value} {s : State} (h : (Jvm.Cond.and given_1 narrow_1).before args s = true) : ∀ w ∈ ndL, w.before args s = true := fun w hw => flat_of_before _ h w ((List.isSublist_iff_sublist.mp ndL_sub).subset hw)
def otL : List Cond := [.eq (.static "java/lang/String" "COMPACT_STRINGS" "Z") (.int 1), .isRef (.static "jdk/internal/util/Preconditions" "SIOOBE_FORMATTER" "Ljava/util/function/BiFunction;"), .eq (.string "ClothEnds$RuleReader" 72) (.string "ClothEndsModel" 361), .eq (.string "ClothEnds$RuleReader" 120) (.string "ClothEndsModel" 306)]
set_option maxRecDepth 20000 in
theorem otL_sub : otL.isSublist (flatC (Jvm.Cond.and given_1 narrow_1)) = true := by decide +kernel
theorem otL_in {args : Array Value} {s : State} (h : (Jvm.Cond.and given_1 narrow_1).before args s = true) : ∀ w ∈ otL, w.before args s = true := fun w hw => flat_of_before _ h w ((List.isSublist_iff_sublist.mp otL_sub).subset hw)
