section
-- ===== PART A: goes FIRST, ahead of the names: the tables' words, and 'selects' of the private methods out of them =====
/-- a private method of a class that the tables say can be made, by its rows of tables_1 -/
def lw_okq (q : MethodName × Nat) : Prop := (q.1.cls ≠ "java/lang/invoke/MethodHandle" ∧ q.1.cls ≠ "java/lang/invoke/VarHandle") ∧ Cond.instantiable q.1.cls q.2 ∈ tables_1 ∧ Cond.privateMethod q.1 ∈ tables_1 ∧ Cond.instanceMethod q.1 ∈ tables_1
theorem lw_p0 : lw_okq (⟨"ClothEnds$ShopReader", "readClause", "(Z)I"⟩, 4) := ⟨⟨by decide +kernel, by decide +kernel⟩, List.mem_of_getElem? (i := 266) (by decide +kernel), List.mem_of_getElem? (i := 522) (by decide +kernel), List.mem_of_getElem? (i := 523) (by decide +kernel)⟩
theorem lw_p1 : lw_okq (⟨"ClothEnds$ShopReader", "most", "(II)I"⟩, 4) := ⟨⟨by decide +kernel, by decide +kernel⟩, List.mem_of_getElem? (i := 266) (by decide +kernel), List.mem_of_getElem? (i := 597) (by decide +kernel), List.mem_of_getElem? (i := 598) (by decide +kernel)⟩
theorem lw_p2 : lw_okq (⟨"ClothEnds$ShopReader", "keep", "(II)V"⟩, 4) := ⟨⟨by decide +kernel, by decide +kernel⟩, List.mem_of_getElem? (i := 266) (by decide +kernel), List.mem_of_getElem? (i := 607) (by decide +kernel), List.mem_of_getElem? (i := 608) (by decide +kernel)⟩
theorem lw_p3 : lw_okq (⟨"ClothEnds$RuleReader", "readClause", "(Z)I"⟩, 8) := ⟨⟨by decide +kernel, by decide +kernel⟩, List.mem_of_getElem? (i := 289) (by decide +kernel), List.mem_of_getElem? (i := 652) (by decide +kernel), List.mem_of_getElem? (i := 653) (by decide +kernel)⟩
theorem lw_p4 : lw_okq (⟨"ClothEnds$RuleReader", "readTest", "()I"⟩, 8) := ⟨⟨by decide +kernel, by decide +kernel⟩, List.mem_of_getElem? (i := 289) (by decide +kernel), List.mem_of_getElem? (i := 668) (by decide +kernel), List.mem_of_getElem? (i := 669) (by decide +kernel)⟩
theorem lw_p5 : lw_okq (⟨"ClothEnds$RuleReader", "readOpenings", "()I"⟩, 8) := ⟨⟨by decide +kernel, by decide +kernel⟩, List.mem_of_getElem? (i := 289) (by decide +kernel), List.mem_of_getElem? (i := 672) (by decide +kernel), List.mem_of_getElem? (i := 673) (by decide +kernel)⟩
theorem lw_p6 : lw_okq (⟨"ClothEnds$RuleReader", "readOpening", "()I"⟩, 8) := ⟨⟨by decide +kernel, by decide +kernel⟩, List.mem_of_getElem? (i := 289) (by decide +kernel), List.mem_of_getElem? (i := 676) (by decide +kernel), List.mem_of_getElem? (i := 677) (by decide +kernel)⟩
theorem lw_p7 : lw_okq (⟨"ClothEnds$RuleReader", "hold", "(I)V"⟩, 8) := ⟨⟨by decide +kernel, by decide +kernel⟩, List.mem_of_getElem? (i := 289) (by decide +kernel), List.mem_of_getElem? (i := 683) (by decide +kernel), List.mem_of_getElem? (i := 684) (by decide +kernel)⟩
theorem lw_p8 : lw_okq (⟨"ClothEnds$RuleReader", "readSum", "()I"⟩, 8) := ⟨⟨by decide +kernel, by decide +kernel⟩, List.mem_of_getElem? (i := 289) (by decide +kernel), List.mem_of_getElem? (i := 687) (by decide +kernel), List.mem_of_getElem? (i := 688) (by decide +kernel)⟩
theorem lw_p9 : lw_okq (⟨"ClothEnds$RuleReader", "readValue", "()I"⟩, 8) := ⟨⟨by decide +kernel, by decide +kernel⟩, List.mem_of_getElem? (i := 289) (by decide +kernel), List.mem_of_getElem? (i := 691) (by decide +kernel), List.mem_of_getElem? (i := 692) (by decide +kernel)⟩
theorem lw_p10 : lw_okq (⟨"ClothEnds$RuleReader", "readBetween", "()I"⟩, 8) := ⟨⟨by decide +kernel, by decide +kernel⟩, List.mem_of_getElem? (i := 289) (by decide +kernel), List.mem_of_getElem? (i := 702) (by decide +kernel), List.mem_of_getElem? (i := 703) (by decide +kernel)⟩
theorem lw_p11 : lw_okq (⟨"ClothEnds$RuleReader", "readSign", "()I"⟩, 8) := ⟨⟨by decide +kernel, by decide +kernel⟩, List.mem_of_getElem? (i := 289) (by decide +kernel), List.mem_of_getElem? (i := 706) (by decide +kernel), List.mem_of_getElem? (i := 707) (by decide +kernel)⟩
theorem lw_p12 : lw_okq (⟨"ClothEnds$RuleReader", "closeBrackets", "()V"⟩, 8) := ⟨⟨by decide +kernel, by decide +kernel⟩, List.mem_of_getElem? (i := 289) (by decide +kernel), List.mem_of_getElem? (i := 710) (by decide +kernel), List.mem_of_getElem? (i := 711) (by decide +kernel)⟩
theorem lw_p13 : lw_okq (⟨"ClothEnds$RuleReader", "settleNots", "()V"⟩, 8) := ⟨⟨by decide +kernel, by decide +kernel⟩, List.mem_of_getElem? (i := 289) (by decide +kernel), List.mem_of_getElem? (i := 714) (by decide +kernel), List.mem_of_getElem? (i := 715) (by decide +kernel)⟩
theorem lw_p14 : lw_okq (⟨"ClothEnds$RuleReader", "settle", "(Z)V"⟩, 8) := ⟨⟨by decide +kernel, by decide +kernel⟩, List.mem_of_getElem? (i := 289) (by decide +kernel), List.mem_of_getElem? (i := 718) (by decide +kernel), List.mem_of_getElem? (i := 719) (by decide +kernel)⟩
theorem lw_p15 : lw_okq (⟨"ClothEnds$RuleReader", "clauseEnd", "(I)I"⟩, 8) := ⟨⟨by decide +kernel, by decide +kernel⟩, List.mem_of_getElem? (i := 289) (by decide +kernel), List.mem_of_getElem? (i := 723) (by decide +kernel), List.mem_of_getElem? (i := 724) (by decide +kernel)⟩
def lw_privs_1 : List (MethodName × Nat) := [(⟨"ClothEnds$ShopReader", "readClause", "(Z)I"⟩, 4), (⟨"ClothEnds$ShopReader", "most", "(II)I"⟩, 4), (⟨"ClothEnds$ShopReader", "keep", "(II)V"⟩, 4), (⟨"ClothEnds$RuleReader", "readClause", "(Z)I"⟩, 8), (⟨"ClothEnds$RuleReader", "readTest", "()I"⟩, 8), (⟨"ClothEnds$RuleReader", "readOpenings", "()I"⟩, 8), (⟨"ClothEnds$RuleReader", "readOpening", "()I"⟩, 8), (⟨"ClothEnds$RuleReader", "hold", "(I)V"⟩, 8), (⟨"ClothEnds$RuleReader", "readSum", "()I"⟩, 8), (⟨"ClothEnds$RuleReader", "readValue", "()I"⟩, 8), (⟨"ClothEnds$RuleReader", "readBetween", "()I"⟩, 8), (⟨"ClothEnds$RuleReader", "readSign", "()I"⟩, 8), (⟨"ClothEnds$RuleReader", "closeBrackets", "()V"⟩, 8), (⟨"ClothEnds$RuleReader", "settleNots", "()V"⟩, 8), (⟨"ClothEnds$RuleReader", "settle", "(Z)V"⟩, 8), (⟨"ClothEnds$RuleReader", "clauseEnd", "(I)I"⟩, 8)]
theorem lw_r1 : ∀ q ∈ lw_privs_1, lw_okq q := List.forall_mem_cons.mpr ⟨lw_p0, List.forall_mem_cons.mpr ⟨lw_p1, List.forall_mem_cons.mpr ⟨lw_p2, List.forall_mem_cons.mpr ⟨lw_p3, List.forall_mem_cons.mpr ⟨lw_p4, List.forall_mem_cons.mpr ⟨lw_p5, List.forall_mem_cons.mpr ⟨lw_p6, List.forall_mem_cons.mpr ⟨lw_p7, List.forall_mem_cons.mpr ⟨lw_p8, List.forall_mem_cons.mpr ⟨lw_p9, List.forall_mem_cons.mpr ⟨lw_p10, List.forall_mem_cons.mpr ⟨lw_p11, List.forall_mem_cons.mpr ⟨lw_p12, List.forall_mem_cons.mpr ⟨lw_p13, List.forall_mem_cons.mpr ⟨lw_p14, List.forall_mem_cons.mpr ⟨lw_p15, fun _ h => absurd h List.not_mem_nil⟩⟩⟩⟩⟩⟩⟩⟩⟩⟩⟩⟩⟩⟩⟩⟩
theorem lw_p16 : lw_okq (⟨"ClothEnds", "carryOff", "(III)I"⟩, 14) := ⟨⟨by decide +kernel, by decide +kernel⟩, List.mem_of_getElem? (i := 21) (by decide +kernel), List.mem_of_getElem? (i := 758) (by decide +kernel), List.mem_of_getElem? (i := 759) (by decide +kernel)⟩
theorem lw_p17 : lw_okq (⟨"ClothEnds", "refuse", "(I)I"⟩, 14) := ⟨⟨by decide +kernel, by decide +kernel⟩, List.mem_of_getElem? (i := 21) (by decide +kernel), List.mem_of_getElem? (i := 762) (by decide +kernel), List.mem_of_getElem? (i := 763) (by decide +kernel)⟩
theorem lw_p18 : lw_okq (⟨"ClothEnds", "hasRule", "(I)Z"⟩, 14) := ⟨⟨by decide +kernel, by decide +kernel⟩, List.mem_of_getElem? (i := 21) (by decide +kernel), List.mem_of_getElem? (i := 814) (by decide +kernel), List.mem_of_getElem? (i := 815) (by decide +kernel)⟩
theorem lw_p19 : lw_okq (⟨"ClothEnds$Stand", "bestBale", "(LClothEnds$Rule;I)I"⟩, 14) := ⟨⟨by decide +kernel, by decide +kernel⟩, List.mem_of_getElem? (i := 49) (by decide +kernel), List.mem_of_getElem? (i := 822) (by decide +kernel), List.mem_of_getElem? (i := 823) (by decide +kernel)⟩
theorem lw_p20 : lw_okq (⟨"ClothEnds$Stand", "setWords", "(II)V"⟩, 14) := ⟨⟨by decide +kernel, by decide +kernel⟩, List.mem_of_getElem? (i := 49) (by decide +kernel), List.mem_of_getElem? (i := 826) (by decide +kernel), List.mem_of_getElem? (i := 827) (by decide +kernel)⟩
theorem lw_p21 : lw_okq (⟨"ClothEnds$Rule", "holds", "(I[J)Z"⟩, 8) := ⟨⟨by decide +kernel, by decide +kernel⟩, List.mem_of_getElem? (i := 295) (by decide +kernel), List.mem_of_getElem? (i := 834) (by decide +kernel), List.mem_of_getElem? (i := 835) (by decide +kernel)⟩
theorem lw_p22 : lw_okq (⟨"ClothEnds$Rule", "run", "(II[J)J"⟩, 8) := ⟨⟨by decide +kernel, by decide +kernel⟩, List.mem_of_getElem? (i := 295) (by decide +kernel), List.mem_of_getElem? (i := 838) (by decide +kernel), List.mem_of_getElem? (i := 839) (by decide +kernel)⟩
theorem lw_p23 : lw_okq (⟨"ClothEnds$Stand", "draw", "()I"⟩, 14) := ⟨⟨by decide +kernel, by decide +kernel⟩, List.mem_of_getElem? (i := 49) (by decide +kernel), List.mem_of_getElem? (i := 866) (by decide +kernel), List.mem_of_getElem? (i := 867) (by decide +kernel)⟩
theorem lw_p24 : lw_okq (⟨"ClothEnds$KnownPlan", "addUp", "(LClothEnds$Told;)V"⟩, 5) := ⟨⟨by decide +kernel, by decide +kernel⟩, List.mem_of_getElem? (i := 368) (by decide +kernel), List.mem_of_getElem? (i := 911) (by decide +kernel), List.mem_of_getElem? (i := 912) (by decide +kernel)⟩
theorem lw_p25 : lw_okq (⟨"ClothEnds$KnownPlan", "addBale", "(III)V"⟩, 5) := ⟨⟨by decide +kernel, by decide +kernel⟩, List.mem_of_getElem? (i := 368) (by decide +kernel), List.mem_of_getElem? (i := 916) (by decide +kernel), List.mem_of_getElem? (i := 917) (by decide +kernel)⟩
theorem lw_p26 : lw_okq (⟨"ClothEnds$KnownPlan", "choose", "(I)V"⟩, 5) := ⟨⟨by decide +kernel, by decide +kernel⟩, List.mem_of_getElem? (i := 368) (by decide +kernel), List.mem_of_getElem? (i := 927) (by decide +kernel), List.mem_of_getElem? (i := 928) (by decide +kernel)⟩
theorem lw_p27 : lw_okq (⟨"ClothEnds$WhichPlan", "takesBales", "(LClothEnds$Shop;)Z"⟩, 9) := ⟨⟨by decide +kernel, by decide +kernel⟩, List.mem_of_getElem? (i := 393) (by decide +kernel), List.mem_of_getElem? (i := 943) (by decide +kernel), List.mem_of_getElem? (i := 944) (by decide +kernel)⟩
theorem lw_p28 : lw_okq (⟨"ClothEnds$WhichPlan", "takesWeights", "(LClothEnds$Told;)Z"⟩, 9) := ⟨⟨by decide +kernel, by decide +kernel⟩, List.mem_of_getElem? (i := 393) (by decide +kernel), List.mem_of_getElem? (i := 947) (by decide +kernel), List.mem_of_getElem? (i := 948) (by decide +kernel)⟩
theorem lw_p29 : lw_okq (⟨"ClothEnds$WhichPlan", "rest", "(III)I"⟩, 9) := ⟨⟨by decide +kernel, by decide +kernel⟩, List.mem_of_getElem? (i := 393) (by decide +kernel), List.mem_of_getElem? (i := 957) (by decide +kernel), List.mem_of_getElem? (i := 958) (by decide +kernel)⟩
theorem lw_p30 : lw_okq (⟨"ClothEnds$WhichPlan", "behind", "(II)I"⟩, 9) := ⟨⟨by decide +kernel, by decide +kernel⟩, List.mem_of_getElem? (i := 393) (by decide +kernel), List.mem_of_getElem? (i := 961) (by decide +kernel), List.mem_of_getElem? (i := 962) (by decide +kernel)⟩
theorem lw_p31 : lw_okq (⟨"ClothEnds$WhichPlan", "mean", "(IIII)J"⟩, 9) := ⟨⟨by decide +kernel, by decide +kernel⟩, List.mem_of_getElem? (i := 393) (by decide +kernel), List.mem_of_getElem? (i := 966) (by decide +kernel), List.mem_of_getElem? (i := 967) (by decide +kernel)⟩
def lw_privs_2 : List (MethodName × Nat) := [(⟨"ClothEnds", "carryOff", "(III)I"⟩, 14), (⟨"ClothEnds", "refuse", "(I)I"⟩, 14), (⟨"ClothEnds", "hasRule", "(I)Z"⟩, 14), (⟨"ClothEnds$Stand", "bestBale", "(LClothEnds$Rule;I)I"⟩, 14), (⟨"ClothEnds$Stand", "setWords", "(II)V"⟩, 14), (⟨"ClothEnds$Rule", "holds", "(I[J)Z"⟩, 8), (⟨"ClothEnds$Rule", "run", "(II[J)J"⟩, 8), (⟨"ClothEnds$Stand", "draw", "()I"⟩, 14), (⟨"ClothEnds$KnownPlan", "addUp", "(LClothEnds$Told;)V"⟩, 5), (⟨"ClothEnds$KnownPlan", "addBale", "(III)V"⟩, 5), (⟨"ClothEnds$KnownPlan", "choose", "(I)V"⟩, 5), (⟨"ClothEnds$WhichPlan", "takesBales", "(LClothEnds$Shop;)Z"⟩, 9), (⟨"ClothEnds$WhichPlan", "takesWeights", "(LClothEnds$Told;)Z"⟩, 9), (⟨"ClothEnds$WhichPlan", "rest", "(III)I"⟩, 9), (⟨"ClothEnds$WhichPlan", "behind", "(II)I"⟩, 9), (⟨"ClothEnds$WhichPlan", "mean", "(IIII)J"⟩, 9)]
theorem lw_r2 : ∀ q ∈ lw_privs_2, lw_okq q := List.forall_mem_cons.mpr ⟨lw_p16, List.forall_mem_cons.mpr ⟨lw_p17, List.forall_mem_cons.mpr ⟨lw_p18, List.forall_mem_cons.mpr ⟨lw_p19, List.forall_mem_cons.mpr ⟨lw_p20, List.forall_mem_cons.mpr ⟨lw_p21, List.forall_mem_cons.mpr ⟨lw_p22, List.forall_mem_cons.mpr ⟨lw_p23, List.forall_mem_cons.mpr ⟨lw_p24, List.forall_mem_cons.mpr ⟨lw_p25, List.forall_mem_cons.mpr ⟨lw_p26, List.forall_mem_cons.mpr ⟨lw_p27, List.forall_mem_cons.mpr ⟨lw_p28, List.forall_mem_cons.mpr ⟨lw_p29, List.forall_mem_cons.mpr ⟨lw_p30, List.forall_mem_cons.mpr ⟨lw_p31, fun _ h => absurd h List.not_mem_nil⟩⟩⟩⟩⟩⟩⟩⟩⟩⟩⟩⟩⟩⟩⟩⟩
theorem lw_p32 : lw_okq (⟨"ClothEnds$WhichPlan", "shortenFraction", "()V"⟩, 9) := ⟨⟨by decide +kernel, by decide +kernel⟩, List.mem_of_getElem? (i := 393) (by decide +kernel), List.mem_of_getElem? (i := 974) (by decide +kernel), List.mem_of_getElem? (i := 975) (by decide +kernel)⟩
theorem lw_p33 : lw_okq (⟨"ClothEnds$Forms", "worthWith", "(LClothEnds$Shop;II)I"⟩, 3) := ⟨⟨by decide +kernel, by decide +kernel⟩, List.mem_of_getElem? (i := 352) (by decide +kernel), List.mem_of_getElem? (i := 1025) (by decide +kernel), List.mem_of_getElem? (i := 1026) (by decide +kernel)⟩
theorem lw_p34 : lw_okq (⟨"ClothEnds$Forms", "gainOfPairs", "(LClothEnds$Stand;I)I"⟩, 3) := ⟨⟨by decide +kernel, by decide +kernel⟩, List.mem_of_getElem? (i := 352) (by decide +kernel), List.mem_of_getElem? (i := 1030) (by decide +kernel), List.mem_of_getElem? (i := 1031) (by decide +kernel)⟩
theorem lw_p35 : lw_okq (⟨"ClothEnds$Forms", "leastAlone", "(LClothEnds$Stand;II)I"⟩, 3) := ⟨⟨by decide +kernel, by decide +kernel⟩, List.mem_of_getElem? (i := 352) (by decide +kernel), List.mem_of_getElem? (i := 1034) (by decide +kernel), List.mem_of_getElem? (i := 1035) (by decide +kernel)⟩
theorem lw_p36 : lw_okq (⟨"ClothEnds$SalePlan", "addWeek", "(LClothEnds$Told;I)V"⟩, 4) := ⟨⟨by decide +kernel, by decide +kernel⟩, List.mem_of_getElem? (i := 430) (by decide +kernel), List.mem_of_getElem? (i := 1071) (by decide +kernel), List.mem_of_getElem? (i := 1072) (by decide +kernel)⟩
theorem lw_p37 : lw_okq (⟨"ClothEnds$SalePlan", "coinsBy", "(LClothEnds$Told;II)I"⟩, 4) := ⟨⟨by decide +kernel, by decide +kernel⟩, List.mem_of_getElem? (i := 430) (by decide +kernel), List.mem_of_getElem? (i := 1075) (by decide +kernel), List.mem_of_getElem? (i := 1076) (by decide +kernel)⟩
theorem lw_p38 : lw_okq (⟨"ClothEndsModel", "put", "(I)V"⟩, 71) := ⟨⟨by decide +kernel, by decide +kernel⟩, List.mem_of_getElem? (i := 1119) (by decide +kernel), List.mem_of_getElem? (i := 1343) (by decide +kernel), List.mem_of_getElem? (i := 1344) (by decide +kernel)⟩
theorem lw_p39 : lw_okq (⟨"ClothEndsModel", "starts", "()V"⟩, 71) := ⟨⟨by decide +kernel, by decide +kernel⟩, List.mem_of_getElem? (i := 1119) (by decide +kernel), List.mem_of_getElem? (i := 1355) (by decide +kernel), List.mem_of_getElem? (i := 1356) (by decide +kernel)⟩
theorem lw_p40 : lw_okq (⟨"ClothEndsModel", "shopClause", "(I)V"⟩, 71) := ⟨⟨by decide +kernel, by decide +kernel⟩, List.mem_of_getElem? (i := 1119) (by decide +kernel), List.mem_of_getElem? (i := 1359) (by decide +kernel), List.mem_of_getElem? (i := 1360) (by decide +kernel)⟩
theorem lw_p41 : lw_okq (⟨"ClothEndsModel", "blanks", "()V"⟩, 71) := ⟨⟨by decide +kernel, by decide +kernel⟩, List.mem_of_getElem? (i := 1119) (by decide +kernel), List.mem_of_getElem? (i := 1363) (by decide +kernel), List.mem_of_getElem? (i := 1364) (by decide +kernel)⟩
theorem lw_p42 : lw_okq (⟨"ClothEndsModel", "sign", "()I"⟩, 71) := ⟨⟨by decide +kernel, by decide +kernel⟩, List.mem_of_getElem? (i := 1119) (by decide +kernel), List.mem_of_getElem? (i := 1367) (by decide +kernel), List.mem_of_getElem? (i := 1368) (by decide +kernel)⟩
theorem lw_p43 : lw_okq (⟨"ClothEndsModel", "stood", "(Ljava/lang/String;)Z"⟩, 71) := ⟨⟨by decide +kernel, by decide +kernel⟩, List.mem_of_getElem? (i := 1119) (by decide +kernel), List.mem_of_getElem? (i := 1381) (by decide +kernel), List.mem_of_getElem? (i := 1382) (by decide +kernel)⟩
theorem lw_p44 : lw_okq (⟨"ClothEndsModel", "fails", "(II)V"⟩, 71) := ⟨⟨by decide +kernel, by decide +kernel⟩, List.mem_of_getElem? (i := 1119) (by decide +kernel), List.mem_of_getElem? (i := 1387) (by decide +kernel), List.mem_of_getElem? (i := 1388) (by decide +kernel)⟩
theorem lw_p45 : lw_okq (⟨"ClothEndsModel", "isFull", "(II)Z"⟩, 71) := ⟨⟨by decide +kernel, by decide +kernel⟩, List.mem_of_getElem? (i := 1119) (by decide +kernel), List.mem_of_getElem? (i := 1391) (by decide +kernel), List.mem_of_getElem? (i := 1392) (by decide +kernel)⟩
theorem lw_p46 : lw_okq (⟨"ClothEndsModel", "shopPart", "(I)V"⟩, 71) := ⟨⟨by decide +kernel, by decide +kernel⟩, List.mem_of_getElem? (i := 1119) (by decide +kernel), List.mem_of_getElem? (i := 1398) (by decide +kernel), List.mem_of_getElem? (i := 1399) (by decide +kernel)⟩
theorem lw_p47 : lw_okq (⟨"ClothEndsModel", "amount", "(II)I"⟩, 71) := ⟨⟨by decide +kernel, by decide +kernel⟩, List.mem_of_getElem? (i := 1119) (by decide +kernel), List.mem_of_getElem? (i := 1402) (by decide +kernel), List.mem_of_getElem? (i := 1403) (by decide +kernel)⟩
def lw_privs_3 : List (MethodName × Nat) := [(⟨"ClothEnds$WhichPlan", "shortenFraction", "()V"⟩, 9), (⟨"ClothEnds$Forms", "worthWith", "(LClothEnds$Shop;II)I"⟩, 3), (⟨"ClothEnds$Forms", "gainOfPairs", "(LClothEnds$Stand;I)I"⟩, 3), (⟨"ClothEnds$Forms", "leastAlone", "(LClothEnds$Stand;II)I"⟩, 3), (⟨"ClothEnds$SalePlan", "addWeek", "(LClothEnds$Told;I)V"⟩, 4), (⟨"ClothEnds$SalePlan", "coinsBy", "(LClothEnds$Told;II)I"⟩, 4), (⟨"ClothEndsModel", "put", "(I)V"⟩, 71), (⟨"ClothEndsModel", "starts", "()V"⟩, 71), (⟨"ClothEndsModel", "shopClause", "(I)V"⟩, 71), (⟨"ClothEndsModel", "blanks", "()V"⟩, 71), (⟨"ClothEndsModel", "sign", "()I"⟩, 71), (⟨"ClothEndsModel", "stood", "(Ljava/lang/String;)Z"⟩, 71), (⟨"ClothEndsModel", "fails", "(II)V"⟩, 71), (⟨"ClothEndsModel", "isFull", "(II)Z"⟩, 71), (⟨"ClothEndsModel", "shopPart", "(I)V"⟩, 71), (⟨"ClothEndsModel", "amount", "(II)I"⟩, 71)]
theorem lw_r3 : ∀ q ∈ lw_privs_3, lw_okq q := List.forall_mem_cons.mpr ⟨lw_p32, List.forall_mem_cons.mpr ⟨lw_p33, List.forall_mem_cons.mpr ⟨lw_p34, List.forall_mem_cons.mpr ⟨lw_p35, List.forall_mem_cons.mpr ⟨lw_p36, List.forall_mem_cons.mpr ⟨lw_p37, List.forall_mem_cons.mpr ⟨lw_p38, List.forall_mem_cons.mpr ⟨lw_p39, List.forall_mem_cons.mpr ⟨lw_p40, List.forall_mem_cons.mpr ⟨lw_p41, List.forall_mem_cons.mpr ⟨lw_p42, List.forall_mem_cons.mpr ⟨lw_p43, List.forall_mem_cons.mpr ⟨lw_p44, List.forall_mem_cons.mpr ⟨lw_p45, List.forall_mem_cons.mpr ⟨lw_p46, List.forall_mem_cons.mpr ⟨lw_p47, fun _ h => absurd h List.not_mem_nil⟩⟩⟩⟩⟩⟩⟩⟩⟩⟩⟩⟩⟩⟩⟩⟩
theorem lw_p48 : lw_okq (⟨"ClothEndsModel", "digits", "(I)I"⟩, 71) := ⟨⟨by decide +kernel, by decide +kernel⟩, List.mem_of_getElem? (i := 1119) (by decide +kernel), List.mem_of_getElem? (i := 1407) (by decide +kernel), List.mem_of_getElem? (i := 1408) (by decide +kernel)⟩
theorem lw_p49 : lw_okq (⟨"ClothEndsModel", "isDigit", "()Z"⟩, 71) := ⟨⟨by decide +kernel, by decide +kernel⟩, List.mem_of_getElem? (i := 1119) (by decide +kernel), List.mem_of_getElem? (i := 1411) (by decide +kernel), List.mem_of_getElem? (i := 1412) (by decide +kernel)⟩
theorem lw_p50 : lw_okq (⟨"ClothEndsModel", "goesOn", "()Z"⟩, 71) := ⟨⟨by decide +kernel, by decide +kernel⟩, List.mem_of_getElem? (i := 1119) (by decide +kernel), List.mem_of_getElem? (i := 1420) (by decide +kernel), List.mem_of_getElem? (i := 1421) (by decide +kernel)⟩
theorem lw_p51 : lw_okq (⟨"ClothEndsModel", "ruleClause", "(I)V"⟩, 71) := ⟨⟨by decide +kernel, by decide +kernel⟩, List.mem_of_getElem? (i := 1119) (by decide +kernel), List.mem_of_getElem? (i := 1431) (by decide +kernel), List.mem_of_getElem? (i := 1432) (by decide +kernel)⟩
theorem lw_p52 : lw_okq (⟨"ClothEndsModel", "sum", "()V"⟩, 71) := ⟨⟨by decide +kernel, by decide +kernel⟩, List.mem_of_getElem? (i := 1119) (by decide +kernel), List.mem_of_getElem? (i := 1437) (by decide +kernel), List.mem_of_getElem? (i := 1438) (by decide +kernel)⟩
theorem lw_p53 : lw_okq (⟨"ClothEndsModel", "term", "()V"⟩, 71) := ⟨⟨by decide +kernel, by decide +kernel⟩, List.mem_of_getElem? (i := 1119) (by decide +kernel), List.mem_of_getElem? (i := 1441) (by decide +kernel), List.mem_of_getElem? (i := 1442) (by decide +kernel)⟩
theorem lw_p54 : lw_okq (⟨"ClothEndsModel", "value", "()V"⟩, 71) := ⟨⟨by decide +kernel, by decide +kernel⟩, List.mem_of_getElem? (i := 1119) (by decide +kernel), List.mem_of_getElem? (i := 1445) (by decide +kernel), List.mem_of_getElem? (i := 1446) (by decide +kernel)⟩
theorem lw_p55 : lw_okq (⟨"ClothEndsModel", "isCounted", "(I)V"⟩, 71) := ⟨⟨by decide +kernel, by decide +kernel⟩, List.mem_of_getElem? (i := 1119) (by decide +kernel), List.mem_of_getElem? (i := 1449) (by decide +kernel), List.mem_of_getElem? (i := 1450) (by decide +kernel)⟩
theorem lw_p56 : lw_okq (⟨"ClothEndsModel", "entered", "(II)V"⟩, 71) := ⟨⟨by decide +kernel, by decide +kernel⟩, List.mem_of_getElem? (i := 1119) (by decide +kernel), List.mem_of_getElem? (i := 1453) (by decide +kernel), List.mem_of_getElem? (i := 1454) (by decide +kernel)⟩
theorem lw_p57 : lw_okq (⟨"ClothEndsModel", "takes", "(Ljava/lang/String;)Z"⟩, 71) := ⟨⟨by decide +kernel, by decide +kernel⟩, List.mem_of_getElem? (i := 1119) (by decide +kernel), List.mem_of_getElem? (i := 1469) (by decide +kernel), List.mem_of_getElem? (i := 1470) (by decide +kernel)⟩
theorem lw_p58 : lw_okq (⟨"ClothEndsModel", "test", "()V"⟩, 71) := ⟨⟨by decide +kernel, by decide +kernel⟩, List.mem_of_getElem? (i := 1119) (by decide +kernel), List.mem_of_getElem? (i := 1473) (by decide +kernel), List.mem_of_getElem? (i := 1474) (by decide +kernel)⟩
theorem lw_p59 : lw_okq (⟨"ClothEndsModel", "fact", "()Z"⟩, 71) := ⟨⟨by decide +kernel, by decide +kernel⟩, List.mem_of_getElem? (i := 1119) (by decide +kernel), List.mem_of_getElem? (i := 1477) (by decide +kernel), List.mem_of_getElem? (i := 1478) (by decide +kernel)⟩
theorem lw_p60 : lw_okq (⟨"ClothEndsModel", "opens", "(I)V"⟩, 71) := ⟨⟨by decide +kernel, by decide +kernel⟩, List.mem_of_getElem? (i := 1119) (by decide +kernel), List.mem_of_getElem? (i := 1482) (by decide +kernel), List.mem_of_getElem? (i := 1483) (by decide +kernel)⟩
theorem lw_p61 : lw_okq (⟨"ClothEndsModel", "compared", "()V"⟩, 71) := ⟨⟨by decide +kernel, by decide +kernel⟩, List.mem_of_getElem? (i := 1119) (by decide +kernel), List.mem_of_getElem? (i := 1486) (by decide +kernel), List.mem_of_getElem? (i := 1487) (by decide +kernel)⟩
theorem lw_p62 : lw_okq (⟨"ClothEndsModel", "answers", "(I)V"⟩, 71) := ⟨⟨by decide +kernel, by decide +kernel⟩, List.mem_of_getElem? (i := 1119) (by decide +kernel), List.mem_of_getElem? (i := 1490) (by decide +kernel), List.mem_of_getElem? (i := 1491) (by decide +kernel)⟩
theorem lw_p63 : lw_okq (⟨"ClothEndsModel", "top", "()I"⟩, 71) := ⟨⟨by decide +kernel, by decide +kernel⟩, List.mem_of_getElem? (i := 1119) (by decide +kernel), List.mem_of_getElem? (i := 1494) (by decide +kernel), List.mem_of_getElem? (i := 1495) (by decide +kernel)⟩
def lw_privs_4 : List (MethodName × Nat) := [(⟨"ClothEndsModel", "digits", "(I)I"⟩, 71), (⟨"ClothEndsModel", "isDigit", "()Z"⟩, 71), (⟨"ClothEndsModel", "goesOn", "()Z"⟩, 71), (⟨"ClothEndsModel", "ruleClause", "(I)V"⟩, 71), (⟨"ClothEndsModel", "sum", "()V"⟩, 71), (⟨"ClothEndsModel", "term", "()V"⟩, 71), (⟨"ClothEndsModel", "value", "()V"⟩, 71), (⟨"ClothEndsModel", "isCounted", "(I)V"⟩, 71), (⟨"ClothEndsModel", "entered", "(II)V"⟩, 71), (⟨"ClothEndsModel", "takes", "(Ljava/lang/String;)Z"⟩, 71), (⟨"ClothEndsModel", "test", "()V"⟩, 71), (⟨"ClothEndsModel", "fact", "()Z"⟩, 71), (⟨"ClothEndsModel", "opens", "(I)V"⟩, 71), (⟨"ClothEndsModel", "compared", "()V"⟩, 71), (⟨"ClothEndsModel", "answers", "(I)V"⟩, 71), (⟨"ClothEndsModel", "top", "()I"⟩, 71)]
theorem lw_r4 : ∀ q ∈ lw_privs_4, lw_okq q := List.forall_mem_cons.mpr ⟨lw_p48, List.forall_mem_cons.mpr ⟨lw_p49, List.forall_mem_cons.mpr ⟨lw_p50, List.forall_mem_cons.mpr ⟨lw_p51, List.forall_mem_cons.mpr ⟨lw_p52, List.forall_mem_cons.mpr ⟨lw_p53, List.forall_mem_cons.mpr ⟨lw_p54, List.forall_mem_cons.mpr ⟨lw_p55, List.forall_mem_cons.mpr ⟨lw_p56, List.forall_mem_cons.mpr ⟨lw_p57, List.forall_mem_cons.mpr ⟨lw_p58, List.forall_mem_cons.mpr ⟨lw_p59, List.forall_mem_cons.mpr ⟨lw_p60, List.forall_mem_cons.mpr ⟨lw_p61, List.forall_mem_cons.mpr ⟨lw_p62, List.forall_mem_cons.mpr ⟨lw_p63, fun _ h => absurd h List.not_mem_nil⟩⟩⟩⟩⟩⟩⟩⟩⟩⟩⟩⟩⟩⟩⟩⟩
theorem lw_p64 : lw_okq (⟨"ClothEndsModel", "isBale", "(I)Z"⟩, 71) := ⟨⟨by decide +kernel, by decide +kernel⟩, List.mem_of_getElem? (i := 1119) (by decide +kernel), List.mem_of_getElem? (i := 1504) (by decide +kernel), List.mem_of_getElem? (i := 1505) (by decide +kernel)⟩
theorem lw_p65 : lw_okq (⟨"ClothEndsModel", "flawsIn", "(II)I"⟩, 71) := ⟨⟨by decide +kernel, by decide +kernel⟩, List.mem_of_getElem? (i := 1119) (by decide +kernel), List.mem_of_getElem? (i := 1508) (by decide +kernel), List.mem_of_getElem? (i := 1509) (by decide +kernel)⟩
theorem lw_p66 : lw_okq (⟨"ClothEndsModel", "nearest", "(I)I"⟩, 71) := ⟨⟨by decide +kernel, by decide +kernel⟩, List.mem_of_getElem? (i := 1119) (by decide +kernel), List.mem_of_getElem? (i := 1512) (by decide +kernel), List.mem_of_getElem? (i := 1513) (by decide +kernel)⟩
theorem lw_p67 : lw_okq (⟨"ClothEndsModel", "isEnd", "(I)Z"⟩, 71) := ⟨⟨by decide +kernel, by decide +kernel⟩, List.mem_of_getElem? (i := 1119) (by decide +kernel), List.mem_of_getElem? (i := 1516) (by decide +kernel), List.mem_of_getElem? (i := 1517) (by decide +kernel)⟩
theorem lw_p68 : lw_okq (⟨"ClothEndsModel", "cutsBy", "(III)I"⟩, 71) := ⟨⟨by decide +kernel, by decide +kernel⟩, List.mem_of_getElem? (i := 1119) (by decide +kernel), List.mem_of_getElem? (i := 1524) (by decide +kernel), List.mem_of_getElem? (i := 1525) (by decide +kernel)⟩
theorem lw_p69 : lw_okq (⟨"ClothEndsModel", "refuses", "(I)I"⟩, 71) := ⟨⟨by decide +kernel, by decide +kernel⟩, List.mem_of_getElem? (i := 1119) (by decide +kernel), List.mem_of_getElem? (i := 1529) (by decide +kernel), List.mem_of_getElem? (i := 1530) (by decide +kernel)⟩
theorem lw_p70 : lw_okq (⟨"ClothEndsModel", "cuts", "(III)V"⟩, 71) := ⟨⟨by decide +kernel, by decide +kernel⟩, List.mem_of_getElem? (i := 1119) (by decide +kernel), List.mem_of_getElem? (i := 1533) (by decide +kernel), List.mem_of_getElem? (i := 1534) (by decide +kernel)⟩
theorem lw_p71 : lw_okq (⟨"ClothEndsModel", "taken", "(III)I"⟩, 71) := ⟨⟨by decide +kernel, by decide +kernel⟩, List.mem_of_getElem? (i := 1119) (by decide +kernel), List.mem_of_getElem? (i := 1537) (by decide +kernel), List.mem_of_getElem? (i := 1538) (by decide +kernel)⟩
theorem lw_p72 : lw_okq (⟨"ClothEndsModel", "takes0", "(II)V"⟩, 71) := ⟨⟨by decide +kernel, by decide +kernel⟩, List.mem_of_getElem? (i := 1119) (by decide +kernel), List.mem_of_getElem? (i := 1541) (by decide +kernel), List.mem_of_getElem? (i := 1542) (by decide +kernel)⟩
theorem lw_p73 : lw_okq (⟨"ClothEndsModel", "isInBasket", "(I)Z"⟩, 71) := ⟨⟨by decide +kernel, by decide +kernel⟩, List.mem_of_getElem? (i := 1119) (by decide +kernel), List.mem_of_getElem? (i := 1557) (by decide +kernel), List.mem_of_getElem? (i := 1558) (by decide +kernel)⟩
theorem lw_p74 : lw_okq (⟨"ClothEndsModel", "isRule", "(I)Z"⟩, 71) := ⟨⟨by decide +kernel, by decide +kernel⟩, List.mem_of_getElem? (i := 1119) (by decide +kernel), List.mem_of_getElem? (i := 1569) (by decide +kernel), List.mem_of_getElem? (i := 1570) (by decide +kernel)⟩
theorem lw_p75 : lw_okq (⟨"ClothEndsModel", "serves", "(II)I"⟩, 71) := ⟨⟨by decide +kernel, by decide +kernel⟩, List.mem_of_getElem? (i := 1119) (by decide +kernel), List.mem_of_getElem? (i := 1573) (by decide +kernel), List.mem_of_getElem? (i := 1574) (by decide +kernel)⟩
theorem lw_p76 : lw_okq (⟨"ClothEndsModel", "asks", "(II)V"⟩, 71) := ⟨⟨by decide +kernel, by decide +kernel⟩, List.mem_of_getElem? (i := 1119) (by decide +kernel), List.mem_of_getElem? (i := 1577) (by decide +kernel), List.mem_of_getElem? (i := 1578) (by decide +kernel)⟩
theorem lw_p77 : lw_okq (⟨"ClothEndsModel", "clauseOf", "(I)I"⟩, 71) := ⟨⟨by decide +kernel, by decide +kernel⟩, List.mem_of_getElem? (i := 1119) (by decide +kernel), List.mem_of_getElem? (i := 1581) (by decide +kernel), List.mem_of_getElem? (i := 1582) (by decide +kernel)⟩
theorem lw_p78 : lw_okq (⟨"ClothEndsModel", "holds", "(II)Z"⟩, 71) := ⟨⟨by decide +kernel, by decide +kernel⟩, List.mem_of_getElem? (i := 1119) (by decide +kernel), List.mem_of_getElem? (i := 1585) (by decide +kernel), List.mem_of_getElem? (i := 1586) (by decide +kernel)⟩
theorem lw_p79 : lw_okq (⟨"ClothEndsModel", "answer", "(III)J"⟩, 71) := ⟨⟨by decide +kernel, by decide +kernel⟩, List.mem_of_getElem? (i := 1119) (by decide +kernel), List.mem_of_getElem? (i := 1589) (by decide +kernel), List.mem_of_getElem? (i := 1590) (by decide +kernel)⟩
def lw_privs_5 : List (MethodName × Nat) := [(⟨"ClothEndsModel", "isBale", "(I)Z"⟩, 71), (⟨"ClothEndsModel", "flawsIn", "(II)I"⟩, 71), (⟨"ClothEndsModel", "nearest", "(I)I"⟩, 71), (⟨"ClothEndsModel", "isEnd", "(I)Z"⟩, 71), (⟨"ClothEndsModel", "cutsBy", "(III)I"⟩, 71), (⟨"ClothEndsModel", "refuses", "(I)I"⟩, 71), (⟨"ClothEndsModel", "cuts", "(III)V"⟩, 71), (⟨"ClothEndsModel", "taken", "(III)I"⟩, 71), (⟨"ClothEndsModel", "takes0", "(II)V"⟩, 71), (⟨"ClothEndsModel", "isInBasket", "(I)Z"⟩, 71), (⟨"ClothEndsModel", "isRule", "(I)Z"⟩, 71), (⟨"ClothEndsModel", "serves", "(II)I"⟩, 71), (⟨"ClothEndsModel", "asks", "(II)V"⟩, 71), (⟨"ClothEndsModel", "clauseOf", "(I)I"⟩, 71), (⟨"ClothEndsModel", "holds", "(II)Z"⟩, 71), (⟨"ClothEndsModel", "answer", "(III)J"⟩, 71)]
theorem lw_r5 : ∀ q ∈ lw_privs_5, lw_okq q := List.forall_mem_cons.mpr ⟨lw_p64, List.forall_mem_cons.mpr ⟨lw_p65, List.forall_mem_cons.mpr ⟨lw_p66, List.forall_mem_cons.mpr ⟨lw_p67, List.forall_mem_cons.mpr ⟨lw_p68, List.forall_mem_cons.mpr ⟨lw_p69, List.forall_mem_cons.mpr ⟨lw_p70, List.forall_mem_cons.mpr ⟨lw_p71, List.forall_mem_cons.mpr ⟨lw_p72, List.forall_mem_cons.mpr ⟨lw_p73, List.forall_mem_cons.mpr ⟨lw_p74, List.forall_mem_cons.mpr ⟨lw_p75, List.forall_mem_cons.mpr ⟨lw_p76, List.forall_mem_cons.mpr ⟨lw_p77, List.forall_mem_cons.mpr ⟨lw_p78, List.forall_mem_cons.mpr ⟨lw_p79, fun _ h => absurd h List.not_mem_nil⟩⟩⟩⟩⟩⟩⟩⟩⟩⟩⟩⟩⟩⟩⟩⟩
theorem lw_p80 : lw_okq (⟨"ClothEndsModel", "isGiven", "(I)Z"⟩, 71) := ⟨⟨by decide +kernel, by decide +kernel⟩, List.mem_of_getElem? (i := 1119) (by decide +kernel), List.mem_of_getElem? (i := 1599) (by decide +kernel), List.mem_of_getElem? (i := 1600) (by decide +kernel)⟩
theorem lw_p81 : lw_okq (⟨"ClothEndsModel", "isDay", "(III)Z"⟩, 71) := ⟨⟨by decide +kernel, by decide +kernel⟩, List.mem_of_getElem? (i := 1119) (by decide +kernel), List.mem_of_getElem? (i := 1607) (by decide +kernel), List.mem_of_getElem? (i := 1608) (by decide +kernel)⟩
theorem lw_p82 : lw_okq (⟨"ClothEndsModel", "goesDay", "(III)I"⟩, 71) := ⟨⟨by decide +kernel, by decide +kernel⟩, List.mem_of_getElem? (i := 1119) (by decide +kernel), List.mem_of_getElem? (i := 1613) (by decide +kernel), List.mem_of_getElem? (i := 1614) (by decide +kernel)⟩
theorem lw_p83 : lw_okq (⟨"ClothEndsModel", "draws", "(I)I"⟩, 71) := ⟨⟨by decide +kernel, by decide +kernel⟩, List.mem_of_getElem? (i := 1119) (by decide +kernel), List.mem_of_getElem? (i := 1617) (by decide +kernel), List.mem_of_getElem? (i := 1618) (by decide +kernel)⟩
theorem lw_p84 : lw_okq (⟨"ClothEndsModel", "leftInAll", "()I"⟩, 71) := ⟨⟨by decide +kernel, by decide +kernel⟩, List.mem_of_getElem? (i := 1119) (by decide +kernel), List.mem_of_getElem? (i := 1631) (by decide +kernel), List.mem_of_getElem? (i := 1632) (by decide +kernel)⟩
theorem lw_p85 : lw_okq (⟨"ClothEndsModel", "sumOf", "(I)I"⟩, 71) := ⟨⟨by decide +kernel, by decide +kernel⟩, List.mem_of_getElem? (i := 1119) (by decide +kernel), List.mem_of_getElem? (i := 1644) (by decide +kernel), List.mem_of_getElem? (i := 1645) (by decide +kernel)⟩
theorem lw_p86 : lw_okq (⟨"ClothEndsModel", "wastedBy", "(II)I"⟩, 71) := ⟨⟨by decide +kernel, by decide +kernel⟩, List.mem_of_getElem? (i := 1119) (by decide +kernel), List.mem_of_getElem? (i := 1649) (by decide +kernel), List.mem_of_getElem? (i := 1650) (by decide +kernel)⟩
theorem lw_p87 : lw_okq (⟨"ClothEndsModel", "allWeights", "()I"⟩, 71) := ⟨⟨by decide +kernel, by decide +kernel⟩, List.mem_of_getElem? (i := 1119) (by decide +kernel), List.mem_of_getElem? (i := 1664) (by decide +kernel), List.mem_of_getElem? (i := 1665) (by decide +kernel)⟩
theorem lw_p88 : lw_okq (⟨"ClothEndsModel", "findsFew", "()Z"⟩, 71) := ⟨⟨by decide +kernel, by decide +kernel⟩, List.mem_of_getElem? (i := 1119) (by decide +kernel), List.mem_of_getElem? (i := 1668) (by decide +kernel), List.mem_of_getElem? (i := 1669) (by decide +kernel)⟩
theorem lw_p89 : lw_okq (⟨"ClothEndsModel", "fillsMeans", "(I)I"⟩, 71) := ⟨⟨by decide +kernel, by decide +kernel⟩, List.mem_of_getElem? (i := 1119) (by decide +kernel), List.mem_of_getElem? (i := 1673) (by decide +kernel), List.mem_of_getElem? (i := 1674) (by decide +kernel)⟩
theorem lw_p90 : lw_okq (⟨"ClothEndsModel", "mostFor", "(IIJI)J"⟩, 71) := ⟨⟨by decide +kernel, by decide +kernel⟩, List.mem_of_getElem? (i := 1119) (by decide +kernel), List.mem_of_getElem? (i := 1684) (by decide +kernel), List.mem_of_getElem? (i := 1685) (by decide +kernel)⟩
theorem lw_p91 : lw_okq (⟨"ClothEndsModel", "stateBehind", "(III)I"⟩, 71) := ⟨⟨by decide +kernel, by decide +kernel⟩, List.mem_of_getElem? (i := 1119) (by decide +kernel), List.mem_of_getElem? (i := 1688) (by decide +kernel), List.mem_of_getElem? (i := 1689) (by decide +kernel)⟩
theorem lw_p92 : lw_okq (⟨"ClothEndsModel", "dropsOf", "(II)I"⟩, 71) := ⟨⟨by decide +kernel, by decide +kernel⟩, List.mem_of_getElem? (i := 1119) (by decide +kernel), List.mem_of_getElem? (i := 1699) (by decide +kernel), List.mem_of_getElem? (i := 1700) (by decide +kernel)⟩
theorem lw_p93 : lw_okq (⟨"ClothEndsModel", "isSeam", "(IIII)Z"⟩, 71) := ⟨⟨by decide +kernel, by decide +kernel⟩, List.mem_of_getElem? (i := 1119) (by decide +kernel), List.mem_of_getElem? (i := 1716) (by decide +kernel), List.mem_of_getElem? (i := 1717) (by decide +kernel)⟩
theorem lw_p94 : lw_okq (⟨"ClothEndsModel", "fillsWorths", "(I)V"⟩, 71) := ⟨⟨by decide +kernel, by decide +kernel⟩, List.mem_of_getElem? (i := 1119) (by decide +kernel), List.mem_of_getElem? (i := 1725) (by decide +kernel), List.mem_of_getElem? (i := 1726) (by decide +kernel)⟩
theorem lw_p95 : lw_okq (⟨"ClothEndsModel", "pairOf", "(II)I"⟩, 71) := ⟨⟨by decide +kernel, by decide +kernel⟩, List.mem_of_getElem? (i := 1119) (by decide +kernel), List.mem_of_getElem? (i := 1733) (by decide +kernel), List.mem_of_getElem? (i := 1734) (by decide +kernel)⟩
def lw_privs_6 : List (MethodName × Nat) := [(⟨"ClothEndsModel", "isGiven", "(I)Z"⟩, 71), (⟨"ClothEndsModel", "isDay", "(III)Z"⟩, 71), (⟨"ClothEndsModel", "goesDay", "(III)I"⟩, 71), (⟨"ClothEndsModel", "draws", "(I)I"⟩, 71), (⟨"ClothEndsModel", "leftInAll", "()I"⟩, 71), (⟨"ClothEndsModel", "sumOf", "(I)I"⟩, 71), (⟨"ClothEndsModel", "wastedBy", "(II)I"⟩, 71), (⟨"ClothEndsModel", "allWeights", "()I"⟩, 71), (⟨"ClothEndsModel", "findsFew", "()Z"⟩, 71), (⟨"ClothEndsModel", "fillsMeans", "(I)I"⟩, 71), (⟨"ClothEndsModel", "mostFor", "(IIJI)J"⟩, 71), (⟨"ClothEndsModel", "stateBehind", "(III)I"⟩, 71), (⟨"ClothEndsModel", "dropsOf", "(II)I"⟩, 71), (⟨"ClothEndsModel", "isSeam", "(IIII)Z"⟩, 71), (⟨"ClothEndsModel", "fillsWorths", "(I)V"⟩, 71), (⟨"ClothEndsModel", "pairOf", "(II)I"⟩, 71)]
theorem lw_r6 : ∀ q ∈ lw_privs_6, lw_okq q := List.forall_mem_cons.mpr ⟨lw_p80, List.forall_mem_cons.mpr ⟨lw_p81, List.forall_mem_cons.mpr ⟨lw_p82, List.forall_mem_cons.mpr ⟨lw_p83, List.forall_mem_cons.mpr ⟨lw_p84, List.forall_mem_cons.mpr ⟨lw_p85, List.forall_mem_cons.mpr ⟨lw_p86, List.forall_mem_cons.mpr ⟨lw_p87, List.forall_mem_cons.mpr ⟨lw_p88, List.forall_mem_cons.mpr ⟨lw_p89, List.forall_mem_cons.mpr ⟨lw_p90, List.forall_mem_cons.mpr ⟨lw_p91, List.forall_mem_cons.mpr ⟨lw_p92, List.forall_mem_cons.mpr ⟨lw_p93, List.forall_mem_cons.mpr ⟨lw_p94, List.forall_mem_cons.mpr ⟨lw_p95, fun _ h => absurd h List.not_mem_nil⟩⟩⟩⟩⟩⟩⟩⟩⟩⟩⟩⟩⟩⟩⟩⟩
theorem lw_p96 : lw_okq (⟨"ClothEndsModel", "coinsBy", "(IIII)I"⟩, 71) := ⟨⟨by decide +kernel, by decide +kernel⟩, List.mem_of_getElem? (i := 1119) (by decide +kernel), List.mem_of_getElem? (i := 1753) (by decide +kernel), List.mem_of_getElem? (i := 1754) (by decide +kernel)⟩
theorem lw_p97 : lw_okq (⟨"ClothEndsModel", "soldBy", "(I)I"⟩, 71) := ⟨⟨by decide +kernel, by decide +kernel⟩, List.mem_of_getElem? (i := 1119) (by decide +kernel), List.mem_of_getElem? (i := 1776) (by decide +kernel), List.mem_of_getElem? (i := 1777) (by decide +kernel)⟩
theorem lw_p98 : lw_okq (⟨"ClothEndsModel", "carriesAll", "(IZ)V"⟩, 71) := ⟨⟨by decide +kernel, by decide +kernel⟩, List.mem_of_getElem? (i := 1119) (by decide +kernel), List.mem_of_getElem? (i := 1796) (by decide +kernel), List.mem_of_getElem? (i := 1797) (by decide +kernel)⟩
theorem lw_p99 : lw_okq (⟨"ClothEndsModel", "carry", "([I)V"⟩, 71) := ⟨⟨by decide +kernel, by decide +kernel⟩, List.mem_of_getElem? (i := 1119) (by decide +kernel), List.mem_of_getElem? (i := 1800) (by decide +kernel), List.mem_of_getElem? (i := 1801) (by decide +kernel)⟩
def lw_privs_7 : List (MethodName × Nat) := [(⟨"ClothEndsModel", "coinsBy", "(IIII)I"⟩, 71), (⟨"ClothEndsModel", "soldBy", "(I)I"⟩, 71), (⟨"ClothEndsModel", "carriesAll", "(IZ)V"⟩, 71), (⟨"ClothEndsModel", "carry", "([I)V"⟩, 71)]
theorem lw_r7 : ∀ q ∈ lw_privs_7, lw_okq q := List.forall_mem_cons.mpr ⟨lw_p96, List.forall_mem_cons.mpr ⟨lw_p97, List.forall_mem_cons.mpr ⟨lw_p98, List.forall_mem_cons.mpr ⟨lw_p99, fun _ h => absurd h List.not_mem_nil⟩⟩⟩⟩
def lw_privs : List (MethodName × Nat) := lw_privs_1 ++ (lw_privs_2 ++ (lw_privs_3 ++ (lw_privs_4 ++ (lw_privs_5 ++ (lw_privs_6 ++ (lw_privs_7))))))
def lw_tbl : List Cond := k2_sels lw_privs ++ tables_1
theorem lw_privs_ok : ∀ q ∈ lw_privs, lw_okq q := by
  show ∀ q ∈ lw_privs_1 ++ (lw_privs_2 ++ (lw_privs_3 ++ (lw_privs_4 ++ (lw_privs_5 ++ (lw_privs_6 ++ (lw_privs_7)))))), lw_okq q
  exact List.forall_mem_append.mpr ⟨lw_r1, List.forall_mem_append.mpr ⟨lw_r2, List.forall_mem_append.mpr ⟨lw_r3, List.forall_mem_append.mpr ⟨lw_r4, List.forall_mem_append.mpr ⟨lw_r5, List.forall_mem_append.mpr ⟨lw_r6, lw_r7⟩⟩⟩⟩⟩⟩
def RX0 : String := "ClothEnds$Forms"
def TX0 : u_T := fun k => match k with
  | 0 => ("ClothEnds$Forms", "worth", "[I", true)
  | 1 => ("ClothEnds$Forms", "alone", "[I", true)
  | _ => ("ClothEnds$Forms", "paired", "[Z", true)
def tyX0 : Nat → FieldType := fun k => match k with
  | 0 => .array .int
  | 1 => .array .int
  | _ => .array .boolean
theorem nmX0 : ∀ a, a < 3 → ∀ b, b < 3 → a ≠ b → (TX0 a).2.1 ≠ (TX0 b).2.1 := by decide +kernel
theorem tyX0_ok : ∀ k, k < 3 → parseFieldDescriptor (TX0 k).2.2.1 = some (tyX0 k) := by decide +kernel
abbrev cX0_init : ByteArray := prog_2_method_1_code
def yX0_init : MethodName := ⟨RX0, "<init>", "()V"⟩
abbrev cX0_lay : ByteArray := prog_2_method_2_code
def yX0_lay : MethodName := ⟨RX0, "lay", "(LClothEnds$Shop;I)V"⟩
abbrev cX0_fits : ByteArray := prog_2_method_3_code
def yX0_fits : MethodName := ⟨RX0, "fits", "(LClothEnds$Shop;III)Z"⟩
abbrev cX0_worthWith : ByteArray := prog_2_method_4_code
def yX0_worthWith : MethodName := ⟨RX0, "worthWith", "(LClothEnds$Shop;II)I"⟩
abbrev cX0_worthOf : ByteArray := prog_2_method_5_code
def yX0_worthOf : MethodName := ⟨RX0, "worthOf", "(I)I"⟩
abbrev cX0_firstOf : ByteArray := prog_2_method_6_code
def yX0_firstOf : MethodName := ⟨RX0, "firstOf", "(LClothEnds$Shop;II)I"⟩
abbrev cX0_longestWorth : ByteArray := prog_2_method_7_code
def yX0_longestWorth : MethodName := ⟨RX0, "longestWorth", "(I)I"⟩
abbrev cX0_worthOfBasket : ByteArray := prog_2_method_8_code
def yX0_worthOfBasket : MethodName := ⟨RX0, "worthOfBasket", "(LClothEnds$Stand;)I"⟩
abbrev cX0_gainOfPairs : ByteArray := prog_2_method_9_code
def yX0_gainOfPairs : MethodName := ⟨RX0, "gainOfPairs", "(LClothEnds$Stand;I)I"⟩
abbrev cX0_leastAlone : ByteArray := prog_2_method_10_code
def yX0_leastAlone : MethodName := ⟨RX0, "leastAlone", "(LClothEnds$Stand;II)I"⟩
def RX1 : String := "ClothEnds$KnownPlan"
def TX1 : u_T := fun k => match k with
  | 0 => ("ClothEnds$KnownPlan", "eighths", "[I", true)
  | 1 => ("ClothEnds$KnownPlan", "cost", "[I", true)
  | 2 => ("ClothEnds$KnownPlan", "sold", "I", false)
  | 3 => ("ClothEnds$KnownPlan", "bales", "I", false)
  | _ => ("ClothEnds$KnownPlan", "lost", "I", false)
def tyX1 : Nat → FieldType := fun k => match k with
  | 0 => .array .int
  | 1 => .array .int
  | 2 => .int
  | 3 => .int
  | _ => .int
theorem nmX1 : ∀ a, a < 5 → ∀ b, b < 5 → a ≠ b → (TX1 a).2.1 ≠ (TX1 b).2.1 := by decide +kernel
theorem tyX1_ok : ∀ k, k < 5 → parseFieldDescriptor (TX1 k).2.2.1 = some (tyX1 k) := by decide +kernel
abbrev cX1_init : ByteArray := prog_3_method_1_code
def yX1_init : MethodName := ⟨RX1, "<init>", "()V"⟩
abbrev cX1_work : ByteArray := prog_3_method_2_code
def yX1_work : MethodName := ⟨RX1, "work", "(LClothEnds$Shop;LClothEnds$Told;)V"⟩
abbrev cX1_addUp : ByteArray := prog_3_method_3_code
def yX1_addUp : MethodName := ⟨RX1, "addUp", "(LClothEnds$Told;)V"⟩
abbrev cX1_addBale : ByteArray := prog_3_method_4_code
def yX1_addBale : MethodName := ⟨RX1, "addBale", "(III)V"⟩
abbrev cX1_choose : ByteArray := prog_3_method_5_code
def yX1_choose : MethodName := ⟨RX1, "choose", "(I)V"⟩
def RX2 : String := "ClothEnds$Rule"
def TX2 : u_T := fun k => match k with
  | 0 => ("ClothEnds$Rule", "steps", "[I", true)
  | 1 => ("ClothEnds$Rule", "size", "I", false)
  | 2 => ("ClothEnds$Rule", "isFrom", "[Z", true)
  | 3 => ("ClothEnds$Rule", "sumStart", "[I", true)
  | 4 => ("ClothEnds$Rule", "testStart", "[I", true)
  | 5 => ("ClothEnds$Rule", "stop", "[I", true)
  | 6 => ("ClothEnds$Rule", "clauses", "I", false)
  | _ => ("ClothEnds$Rule", "pile", "[J", true)
def tyX2 : Nat → FieldType := fun k => match k with
  | 0 => .array .int
  | 1 => .int
  | 2 => .array .boolean
  | 3 => .array .int
  | 4 => .array .int
  | 5 => .array .int
  | 6 => .int
  | _ => .array .long
theorem nmX2 : ∀ a, a < 8 → ∀ b, b < 8 → a ≠ b → (TX2 a).2.1 ≠ (TX2 b).2.1 := by decide +kernel
theorem tyX2_ok : ∀ k, k < 8 → parseFieldDescriptor (TX2 k).2.2.1 = some (tyX2 k) := by decide +kernel
abbrev cX2_init : ByteArray := prog_4_method_1_code
def yX2_init : MethodName := ⟨RX2, "<init>", "()V"⟩
abbrev cX2_clear : ByteArray := prog_4_method_2_code
def yX2_clear : MethodName := ⟨RX2, "clear", "()V"⟩
abbrev cX2_copyFrom : ByteArray := prog_4_method_3_code
def yX2_copyFrom : MethodName := ⟨RX2, "copyFrom", "(LClothEnds$Rule;)V"⟩
abbrev cX2_beginClause : ByteArray := prog_4_method_4_code
def yX2_beginClause : MethodName := ⟨RX2, "beginClause", "(Z)V"⟩
abbrev cX2_beginTest : ByteArray := prog_4_method_5_code
def yX2_beginTest : MethodName := ⟨RX2, "beginTest", "()V"⟩
abbrev cX2_append : ByteArray := prog_4_method_6_code
def yX2_append : MethodName := ⟨RX2, "append", "(II)V"⟩
abbrev cX2_clauseFor : ByteArray := prog_4_method_7_code
def yX2_clauseFor : MethodName := ⟨RX2, "clauseFor", "([J)I"⟩
abbrev cX2_sumOf : ByteArray := prog_4_method_8_code
def yX2_sumOf : MethodName := ⟨RX2, "sumOf", "(I[J)J"⟩
abbrev cX2_gives : ByteArray := prog_4_method_9_code
def yX2_gives : MethodName := ⟨RX2, "gives", "([J)Z"⟩
abbrev cX2_holds : ByteArray := prog_4_method_10_code
def yX2_holds : MethodName := ⟨RX2, "holds", "(I[J)Z"⟩
abbrev cX2_run : ByteArray := prog_4_method_11_code
def yX2_run : MethodName := ⟨RX2, "run", "(II[J)J"⟩
abbrev cX2_join : ByteArray := prog_4_method_12_code
def yX2_join : MethodName := ⟨RX2, "join", "(IJJ)J"⟩
def RX3 : String := "ClothEnds$RuleReader"
def TX3 : u_T := fun k => match k with
  | 0 => ("ClothEnds$RuleReader", "text", "LClothEnds$Text;", true)
  | 1 => ("ClothEnds$RuleReader", "draft", "LClothEnds$Rule;", true)
  | 2 => ("ClothEnds$RuleReader", "parts", "I", false)
  | 3 => ("ClothEnds$RuleReader", "sign", "I", false)
  | 4 => ("ClothEnds$RuleReader", "waiting", "[I", true)
  | 5 => ("ClothEnds$RuleReader", "waits", "I", false)
  | 6 => ("ClothEnds$RuleReader", "open", "I", false)
  | _ => ("ClothEnds$RuleReader", "deep", "I", false)
def tyX3 : Nat → FieldType := fun k => match k with
  | 0 => .object "ClothEnds$Text"
  | 1 => .object "ClothEnds$Rule"
  | 2 => .int
  | 3 => .int
  | 4 => .array .int
  | 5 => .int
  | 6 => .int
  | _ => .int
theorem nmX3 : ∀ a, a < 8 → ∀ b, b < 8 → a ≠ b → (TX3 a).2.1 ≠ (TX3 b).2.1 := by decide +kernel
theorem tyX3_ok : ∀ k, k < 8 → parseFieldDescriptor (TX3 k).2.2.1 = some (tyX3 k) := by decide +kernel
abbrev cX3_init : ByteArray := prog_5_method_1_code
def yX3_init : MethodName := ⟨RX3, "<init>", "(LClothEnds$Text;)V"⟩
abbrev cX3_read : ByteArray := prog_5_method_2_code
def yX3_read : MethodName := ⟨RX3, "read", "()I"⟩
abbrev cX3_readClause : ByteArray := prog_5_method_3_code
def yX3_readClause : MethodName := ⟨RX3, "readClause", "(Z)I"⟩
abbrev cX3_clauseEnd : ByteArray := prog_5_method_4_code
def yX3_clauseEnd : MethodName := ⟨RX3, "clauseEnd", "(I)I"⟩
abbrev cX3_readTest : ByteArray := prog_5_method_5_code
def yX3_readTest : MethodName := ⟨RX3, "readTest", "()I"⟩
abbrev cX3_readOpenings : ByteArray := prog_5_method_6_code
def yX3_readOpenings : MethodName := ⟨RX3, "readOpenings", "()I"⟩
abbrev cX3_readOpening : ByteArray := prog_5_method_7_code
def yX3_readOpening : MethodName := ⟨RX3, "readOpening", "()I"⟩
abbrev cX3_closeBrackets : ByteArray := prog_5_method_8_code
def yX3_closeBrackets : MethodName := ⟨RX3, "closeBrackets", "()V"⟩
abbrev cX3_settleNots : ByteArray := prog_5_method_9_code
def yX3_settleNots : MethodName := ⟨RX3, "settleNots", "()V"⟩
abbrev cX3_settle : ByteArray := prog_5_method_10_code
def yX3_settle : MethodName := ⟨RX3, "settle", "(Z)V"⟩
abbrev cX3_hold : ByteArray := prog_5_method_11_code
def yX3_hold : MethodName := ⟨RX3, "hold", "(I)V"⟩
abbrev cX3_readSum : ByteArray := prog_5_method_12_code
def yX3_readSum : MethodName := ⟨RX3, "readSum", "()I"⟩
abbrev cX3_readValue : ByteArray := prog_5_method_13_code
def yX3_readValue : MethodName := ⟨RX3, "readValue", "()I"⟩
abbrev cX3_readBetween : ByteArray := prog_5_method_14_code
def yX3_readBetween : MethodName := ⟨RX3, "readBetween", "()I"⟩
abbrev cX3_readSign : ByteArray := prog_5_method_15_code
def yX3_readSign : MethodName := ⟨RX3, "readSign", "()I"⟩
def RX4 : String := "ClothEnds$SalePlan"
def TX4 : u_T := fun k => match k with
  | 0 => ("ClothEnds$SalePlan", "follow", "[I", true)
  | 1 => ("ClothEnds$SalePlan", "lost", "I", false)
  | 2 => ("ClothEnds$SalePlan", "coins", "I", false)
  | _ => ("ClothEnds$SalePlan", "first", "I", false)
def tyX4 : Nat → FieldType := fun k => match k with
  | 0 => .array .int
  | 1 => .int
  | 2 => .int
  | _ => .int
theorem nmX4 : ∀ a, a < 4 → ∀ b, b < 4 → a ≠ b → (TX4 a).2.1 ≠ (TX4 b).2.1 := by decide +kernel
theorem tyX4_ok : ∀ k, k < 4 → parseFieldDescriptor (TX4 k).2.2.1 = some (tyX4 k) := by decide +kernel
abbrev cX4_init : ByteArray := prog_6_method_1_code
def yX4_init : MethodName := ⟨RX4, "<init>", "()V"⟩
abbrev cX4_work : ByteArray := prog_6_method_2_code
def yX4_work : MethodName := ⟨RX4, "work", "(LClothEnds$Told;III)V"⟩
abbrev cX4_addWeek : ByteArray := prog_6_method_3_code
def yX4_addWeek : MethodName := ⟨RX4, "addWeek", "(LClothEnds$Told;I)V"⟩
abbrev cX4_coinsBy : ByteArray := prog_6_method_4_code
def yX4_coinsBy : MethodName := ⟨RX4, "coinsBy", "(LClothEnds$Told;II)I"⟩
def RX5 : String := "ClothEnds$Shop"
def TX5 : u_T := fun k => match k with
  | 0 => ("ClothEnds$Shop", "eighths", "[I", true)
  | 1 => ("ClothEnds$Shop", "width", "[I", true)
  | 2 => ("ClothEnds$Shop", "lot", "[I", true)
  | 3 => ("ClothEnds$Shop", "stripe", "[I", true)
  | 4 => ("ClothEnds$Shop", "bales", "I", false)
  | 5 => ("ClothEnds$Shop", "flawBale", "[I", true)
  | 6 => ("ClothEnds$Shop", "flawPlace", "[I", true)
  | 7 => ("ClothEnds$Shop", "flaws", "I", false)
  | 8 => ("ClothEnds$Shop", "thumb", "I", false)
  | 9 => ("ClothEnds$Shop", "askew", "I", false)
  | 10 => ("ClothEnds$Shop", "board", "I", false)
  | 11 => ("ClothEnds$Shop", "formLength", "[I", true)
  | 12 => ("ClothEnds$Shop", "formWidth", "[I", true)
  | 13 => ("ClothEnds$Shop", "formWorth", "[I", true)
  | 14 => ("ClothEnds$Shop", "forms", "I", false)
  | 15 => ("ClothEnds$Shop", "pairLength", "I", false)
  | _ => ("ClothEnds$Shop", "pairWorth", "I", false)
def tyX5 : Nat → FieldType := fun k => match k with
  | 0 => .array .int
  | 1 => .array .int
  | 2 => .array .int
  | 3 => .array .int
  | 4 => .int
  | 5 => .array .int
  | 6 => .array .int
  | 7 => .int
  | 8 => .int
  | 9 => .int
  | 10 => .int
  | 11 => .array .int
  | 12 => .array .int
  | 13 => .array .int
  | 14 => .int
  | 15 => .int
  | _ => .int
theorem nmX5 : ∀ a, a < 17 → ∀ b, b < 17 → a ≠ b → (TX5 a).2.1 ≠ (TX5 b).2.1 := by decide +kernel
theorem tyX5_ok : ∀ k, k < 17 → parseFieldDescriptor (TX5 k).2.2.1 = some (tyX5 k) := by decide +kernel
abbrev cX5_init : ByteArray := prog_7_method_1_code
def yX5_init : MethodName := ⟨RX5, "<init>", "()V"⟩
abbrev cX5_clear : ByteArray := prog_7_method_2_code
def yX5_clear : MethodName := ⟨RX5, "clear", "()V"⟩
abbrev cX5_copyFrom : ByteArray := prog_7_method_3_code
def yX5_copyFrom : MethodName := ⟨RX5, "copyFrom", "(LClothEnds$Shop;)V"⟩
abbrev cX5_has : ByteArray := prog_7_method_4_code
def yX5_has : MethodName := ⟨RX5, "has", "(I)Z"⟩
abbrev cX5_hasEnd : ByteArray := prog_7_method_5_code
def yX5_hasEnd : MethodName := ⟨RX5, "hasEnd", "(I)Z"⟩
abbrev cX5_eighthsLeft : ByteArray := prog_7_method_6_code
def yX5_eighthsLeft : MethodName := ⟨RX5, "eighthsLeft", "()I"⟩
abbrev cX5_flawsWithin : ByteArray := prog_7_method_7_code
def yX5_flawsWithin : MethodName := ⟨RX5, "flawsWithin", "(II)I"⟩
abbrev cX5_nearestFlaw : ByteArray := prog_7_method_8_code
def yX5_nearestFlaw : MethodName := ⟨RX5, "nearestFlaw", "(I)I"⟩
abbrev cX5_restBehind : ByteArray := prog_7_method_9_code
def yX5_restBehind : MethodName := ⟨RX5, "restBehind", "(III)I"⟩
abbrev cX5_shorten : ByteArray := prog_7_method_10_code
def yX5_shorten : MethodName := ⟨RX5, "shorten", "(II)V"⟩
abbrev cX5_dropsOf : ByteArray := prog_7_method_11_code
def yX5_dropsOf : MethodName := ⟨RX5, "dropsOf", "(II)I"⟩
abbrev cX5_dropsOfLot : ByteArray := prog_7_method_12_code
def yX5_dropsOfLot : MethodName := ⟨RX5, "dropsOfLot", "(II)I"⟩
abbrev cX5_hidesFlaws : ByteArray := prog_7_method_13_code
def yX5_hidesFlaws : MethodName := ⟨RX5, "hidesFlaws", "(IIII)Z"⟩
def RX6 : String := "ClothEnds$ShopReader"
def TX6 : u_T := fun k => match k with
  | 0 => ("ClothEnds$ShopReader", "text", "LClothEnds$Text;", true)
  | 1 => ("ClothEnds$ShopReader", "draft", "LClothEnds$Shop;", true)
  | 2 => ("ClothEnds$ShopReader", "numbers", "[I", true)
  | _ => ("ClothEnds$ShopReader", "told", "[I", true)
def tyX6 : Nat → FieldType := fun k => match k with
  | 0 => .object "ClothEnds$Text"
  | 1 => .object "ClothEnds$Shop"
  | 2 => .array .int
  | _ => .array .int
theorem nmX6 : ∀ a, a < 4 → ∀ b, b < 4 → a ≠ b → (TX6 a).2.1 ≠ (TX6 b).2.1 := by decide +kernel
theorem tyX6_ok : ∀ k, k < 4 → parseFieldDescriptor (TX6 k).2.2.1 = some (tyX6 k) := by decide +kernel
abbrev cX6_init : ByteArray := prog_8_method_1_code
def yX6_init : MethodName := ⟨RX6, "<init>", "(LClothEnds$Text;)V"⟩
abbrev cX6_read : ByteArray := prog_8_method_2_code
def yX6_read : MethodName := ⟨RX6, "read", "()I"⟩
abbrev cX6_readClause : ByteArray := prog_8_method_3_code
def yX6_readClause : MethodName := ⟨RX6, "readClause", "(Z)I"⟩
abbrev cX6_most : ByteArray := prog_8_method_4_code
def yX6_most : MethodName := ⟨RX6, "most", "(II)I"⟩
abbrev cX6_keep : ByteArray := prog_8_method_5_code
def yX6_keep : MethodName := ⟨RX6, "keep", "(II)V"⟩
def RX7 : String := "ClothEnds$Stand"
def TX7 : u_T := fun k => match k with
  | 0 => ("ClothEnds$Stand", "shop", "LClothEnds$Shop;", true)
  | 1 => ("ClothEnds$Stand", "told", "LClothEnds$Told;", true)
  | 2 => ("ClothEnds$Stand", "endLength", "[I", true)
  | 3 => ("ClothEnds$Stand", "endWidth", "[I", true)
  | 4 => ("ClothEnds$Stand", "endLot", "[I", true)
  | 5 => ("ClothEnds$Stand", "endFlaws", "[I", true)
  | 6 => ("ClothEnds$Stand", "ends", "I", false)
  | 7 => ("ClothEnds$Stand", "sold", "I", false)
  | 8 => ("ClothEnds$Stand", "lost", "I", false)
  | 9 => ("ClothEnds$Stand", "given", "I", false)
  | 10 => ("ClothEnds$Stand", "refused", "I", false)
  | 11 => ("ClothEnds$Stand", "day", "I", false)
  | 12 => ("ClothEnds$Stand", "x", "I", false)
  | _ => ("ClothEnds$Stand", "words", "[J", true)
def tyX7 : Nat → FieldType := fun k => match k with
  | 0 => .object "ClothEnds$Shop"
  | 1 => .object "ClothEnds$Told"
  | 2 => .array .int
  | 3 => .array .int
  | 4 => .array .int
  | 5 => .array .int
  | 6 => .int
  | 7 => .int
  | 8 => .int
  | 9 => .int
  | 10 => .int
  | 11 => .int
  | 12 => .int
  | _ => .array .long
theorem nmX7 : ∀ a, a < 14 → ∀ b, b < 14 → a ≠ b → (TX7 a).2.1 ≠ (TX7 b).2.1 := by decide +kernel
theorem tyX7_ok : ∀ k, k < 14 → parseFieldDescriptor (TX7 k).2.2.1 = some (tyX7 k) := by decide +kernel
abbrev cX7_init : ByteArray := prog_9_method_1_code
def yX7_init : MethodName := ⟨RX7, "<init>", "()V"⟩
abbrev cX7_copyFrom : ByteArray := prog_9_method_2_code
def yX7_copyFrom : MethodName := ⟨RX7, "copyFrom", "(LClothEnds$Stand;)V"⟩
abbrev cX7_open : ByteArray := prog_9_method_3_code
def yX7_open : MethodName := ⟨RX7, "open", "(LClothEnds$Shop;)V"⟩
abbrev cX7_clearCounts : ByteArray := prog_9_method_4_code
def yX7_clearCounts : MethodName := ⟨RX7, "clearCounts", "()V"⟩
abbrev cX7_hasEnd : ByteArray := prog_9_method_5_code
def yX7_hasEnd : MethodName := ⟨RX7, "hasEnd", "(I)Z"⟩
abbrev cX7_putIntoBasket : ByteArray := prog_9_method_6_code
def yX7_putIntoBasket : MethodName := ⟨RX7, "putIntoBasket", "(I)V"⟩
abbrev cX7_takeOutOfBasket : ByteArray := prog_9_method_7_code
def yX7_takeOutOfBasket : MethodName := ⟨RX7, "takeOutOfBasket", "(I)I"⟩
abbrev cX7_sellFrom : ByteArray := prog_9_method_8_code
def yX7_sellFrom : MethodName := ⟨RX7, "sellFrom", "(III)I"⟩
abbrev cX7_fillOrder : ByteArray := prog_9_method_9_code
def yX7_fillOrder : MethodName := ⟨RX7, "fillOrder", "(LClothEnds$Rule;I)I"⟩
abbrev cX7_bestBale : ByteArray := prog_9_method_10_code
def yX7_bestBale : MethodName := ⟨RX7, "bestBale", "(LClothEnds$Rule;I)I"⟩
abbrev cX7_setWords : ByteArray := prog_9_method_11_code
def yX7_setWords : MethodName := ⟨RX7, "setWords", "(II)V"⟩
abbrev cX7_runDay : ByteArray := prog_9_method_12_code
def yX7_runDay : MethodName := ⟨RX7, "runDay", "(LClothEnds$Rule;II)V"⟩
abbrev cX7_draw : ByteArray := prog_9_method_13_code
def yX7_draw : MethodName := ⟨RX7, "draw", "()I"⟩
def RX8 : String := "ClothEnds$Text"
def TX8 : u_T := fun k => match k with
  | 0 => ("ClothEnds$Text", "bytes", "[I", true)
  | 1 => ("ClothEnds$Text", "length", "I", false)
  | _ => ("ClothEnds$Text", "at", "I", false)
def tyX8 : Nat → FieldType := fun k => match k with
  | 0 => .array .int
  | 1 => .int
  | _ => .int
theorem nmX8 : ∀ a, a < 3 → ∀ b, b < 3 → a ≠ b → (TX8 a).2.1 ≠ (TX8 b).2.1 := by decide +kernel
theorem tyX8_ok : ∀ k, k < 3 → parseFieldDescriptor (TX8 k).2.2.1 = some (tyX8 k) := by decide +kernel
abbrev cX8_init : ByteArray := prog_10_method_1_code
def yX8_init : MethodName := ⟨RX8, "<init>", "()V"⟩
abbrev cX8_append : ByteArray := prog_10_method_2_code
def yX8_append : MethodName := ⟨RX8, "append", "(I)V"⟩
abbrev cX8_fault : ByteArray := prog_10_method_3_code
def yX8_fault : MethodName := ⟨RX8, "fault", "(II)I"⟩
abbrev cX8_byteAt : ByteArray := prog_10_method_4_code
def yX8_byteAt : MethodName := ⟨RX8, "byteAt", "(I)I"⟩
abbrev cX8_peek : ByteArray := prog_10_method_5_code
def yX8_peek : MethodName := ⟨RX8, "peek", "()I"⟩
abbrev cX8_step : ByteArray := prog_10_method_6_code
def yX8_step : MethodName := ⟨RX8, "step", "()V"⟩
abbrev cX8_next : ByteArray := prog_10_method_7_code
def yX8_next : MethodName := ⟨RX8, "next", "()I"⟩
abbrev cX8_readWord : ByteArray := prog_10_method_8_code
def yX8_readWord : MethodName := ⟨RX8, "readWord", "(Ljava/lang/String;)I"⟩
abbrev cX8_readNumber : ByteArray := prog_10_method_9_code
def yX8_readNumber : MethodName := ⟨RX8, "readNumber", "()I"⟩
def RX9 : String := "ClothEnds$Told"
def TX9 : u_T := fun k => match k with
  | 0 => ("ClothEnds$Told", "known", "[I", true)
  | 1 => ("ClothEnds$Told", "knowns", "I", false)
  | 2 => ("ClothEnds$Told", "weights", "[I", true)
  | 3 => ("ClothEnds$Told", "levelPrice", "[I", true)
  | 4 => ("ClothEnds$Told", "levelMost", "[I", true)
  | 5 => ("ClothEnds$Told", "levels", "I", false)
  | 6 => ("ClothEnds$Told", "clerkSold", "[I", true)
  | _ => ("ClothEnds$Told", "entries", "I", false)
def tyX9 : Nat → FieldType := fun k => match k with
  | 0 => .array .int
  | 1 => .int
  | 2 => .array .int
  | 3 => .array .int
  | 4 => .array .int
  | 5 => .int
  | 6 => .array .int
  | _ => .int
theorem nmX9 : ∀ a, a < 8 → ∀ b, b < 8 → a ≠ b → (TX9 a).2.1 ≠ (TX9 b).2.1 := by decide +kernel
theorem tyX9_ok : ∀ k, k < 8 → parseFieldDescriptor (TX9 k).2.2.1 = some (tyX9 k) := by decide +kernel
abbrev cX9_init : ByteArray := prog_11_method_1_code
def yX9_init : MethodName := ⟨RX9, "<init>", "()V"⟩
abbrev cX9_clear : ByteArray := prog_11_method_2_code
def yX9_clear : MethodName := ⟨RX9, "clear", "()V"⟩
abbrev cX9_clearEntries : ByteArray := prog_11_method_3_code
def yX9_clearEntries : MethodName := ⟨RX9, "clearEntries", "()V"⟩
abbrev cX9_copyFrom : ByteArray := prog_11_method_4_code
def yX9_copyFrom : MethodName := ⟨RX9, "copyFrom", "(LClothEnds$Told;)V"⟩
abbrev cX9_knownEighths : ByteArray := prog_11_method_5_code
def yX9_knownEighths : MethodName := ⟨RX9, "knownEighths", "()I"⟩
def RX10 : String := "ClothEnds$WhichPlan"
def TX10 : u_T := fun k => match k with
  | 0 => ("ClothEnds$WhichPlan", "bales", "[I", true)
  | 1 => ("ClothEnds$WhichPlan", "left", "[I", true)
  | 2 => ("ClothEnds$WhichPlan", "thumb", "I", false)
  | 3 => ("ClothEnds$WhichPlan", "weights", "[I", true)
  | 4 => ("ClothEnds$WhichPlan", "last", "[J", true)
  | 5 => ("ClothEnds$WhichPlan", "power", "[J", true)
  | 6 => ("ClothEnds$WhichPlan", "bale", "I", false)
  | 7 => ("ClothEnds$WhichPlan", "above", "J", false)
  | _ => ("ClothEnds$WhichPlan", "below", "J", false)
def tyX10 : Nat → FieldType := fun k => match k with
  | 0 => .array .int
  | 1 => .array .int
  | 2 => .int
  | 3 => .array .int
  | 4 => .array .long
  | 5 => .array .long
  | 6 => .int
  | 7 => .long
  | _ => .long
theorem nmX10 : ∀ a, a < 9 → ∀ b, b < 9 → a ≠ b → (TX10 a).2.1 ≠ (TX10 b).2.1 := by decide +kernel
theorem tyX10_ok : ∀ k, k < 9 → parseFieldDescriptor (TX10 k).2.2.1 = some (tyX10 k) := by decide +kernel
abbrev cX10_init : ByteArray := prog_12_method_1_code
def yX10_init : MethodName := ⟨RX10, "<init>", "()V"⟩
abbrev cX10_takes : ByteArray := prog_12_method_2_code
def yX10_takes : MethodName := ⟨RX10, "takes", "(LClothEnds$Shop;LClothEnds$Told;)Z"⟩
abbrev cX10_takesBales : ByteArray := prog_12_method_3_code
def yX10_takesBales : MethodName := ⟨RX10, "takesBales", "(LClothEnds$Shop;)Z"⟩
abbrev cX10_takesWeights : ByteArray := prog_12_method_4_code
def yX10_takesWeights : MethodName := ⟨RX10, "takesWeights", "(LClothEnds$Told;)Z"⟩
abbrev cX10_work : ByteArray := prog_12_method_5_code
def yX10_work : MethodName := ⟨RX10, "work", "(II)V"⟩
abbrev cX10_rest : ByteArray := prog_12_method_6_code
def yX10_rest : MethodName := ⟨RX10, "rest", "(III)I"⟩
abbrev cX10_behind : ByteArray := prog_12_method_7_code
def yX10_behind : MethodName := ⟨RX10, "behind", "(II)I"⟩
abbrev cX10_mean : ByteArray := prog_12_method_8_code
def yX10_mean : MethodName := ⟨RX10, "mean", "(IIII)J"⟩
abbrev cX10_shortenFraction : ByteArray := prog_12_method_9_code
def yX10_shortenFraction : MethodName := ⟨RX10, "shortenFraction", "()V"⟩
def RX11 : String := "ClothEnds"
def TX11 : u_T := fun k => match k with
  | 0 => ("ClothEnds", "tape", "LClothEnds$Text;", true)
  | 1 => ("ClothEnds", "stand", "LClothEnds$Stand;", true)
  | 2 => ("ClothEnds", "trial", "LClothEnds$Stand;", true)
  | 3 => ("ClothEnds", "images", "[LClothEnds$Stand;", true)
  | 4 => ("ClothEnds", "imaged", "[Z", true)
  | 5 => ("ClothEnds", "rules", "[LClothEnds$Rule;", true)
  | 6 => ("ClothEnds", "ruleCount", "I", false)
  | 7 => ("ClothEnds", "refusals", "[I", true)
  | 8 => ("ClothEnds", "shopReader", "LClothEnds$ShopReader;", true)
  | 9 => ("ClothEnds", "ruleReader", "LClothEnds$RuleReader;", true)
  | 10 => ("ClothEnds", "forms", "LClothEnds$Forms;", true)
  | 11 => ("ClothEnds", "knownPlan", "LClothEnds$KnownPlan;", true)
  | 12 => ("ClothEnds", "whichPlan", "LClothEnds$WhichPlan;", true)
  | _ => ("ClothEnds", "salePlan", "LClothEnds$SalePlan;", true)
def tyX11 : Nat → FieldType := fun k => match k with
  | 0 => .object "ClothEnds$Text"
  | 1 => .object "ClothEnds$Stand"
  | 2 => .object "ClothEnds$Stand"
  | 3 => .array (.object "ClothEnds$Stand")
  | 4 => .array .boolean
  | 5 => .array (.object "ClothEnds$Rule")
  | 6 => .int
  | 7 => .array .int
  | 8 => .object "ClothEnds$ShopReader"
  | 9 => .object "ClothEnds$RuleReader"
  | 10 => .object "ClothEnds$Forms"
  | 11 => .object "ClothEnds$KnownPlan"
  | 12 => .object "ClothEnds$WhichPlan"
  | _ => .object "ClothEnds$SalePlan"
theorem nmX11 : ∀ a, a < 14 → ∀ b, b < 14 → a ≠ b → (TX11 a).2.1 ≠ (TX11 b).2.1 := by decide +kernel
theorem tyX11_ok : ∀ k, k < 14 → parseFieldDescriptor (TX11 k).2.2.1 = some (tyX11 k) := by decide +kernel
abbrev cX11_init : ByteArray := prog_1_method_1_code
def yX11_init : MethodName := ⟨RX11, "<init>", "()V"⟩
abbrev cX11_feed : ByteArray := prog_1_method_2_code
def yX11_feed : MethodName := ⟨RX11, "feed", "(IIIII)I"⟩
abbrev cX11_end : ByteArray := prog_1_method_3_code
def yX11_end : MethodName := ⟨RX11, "end", "(I)I"⟩
abbrev cX11_shop : ByteArray := prog_1_method_4_code
def yX11_shop : MethodName := ⟨RX11, "shop", "()I"⟩
abbrev cX11_rule : ByteArray := prog_1_method_5_code
def yX11_rule : MethodName := ⟨RX11, "rule", "()I"⟩
abbrev cX11_bale : ByteArray := prog_1_method_6_code
def yX11_bale : MethodName := ⟨RX11, "bale", "(II)I"⟩
abbrev cX11_cut : ByteArray := prog_1_method_7_code
def yX11_cut : MethodName := ⟨RX11, "cut", "(II)I"⟩
abbrev cX11_tear : ByteArray := prog_1_method_8_code
def yX11_tear : MethodName := ⟨RX11, "tear", "(II)I"⟩
abbrev cX11_basket : ByteArray := prog_1_method_9_code
def yX11_basket : MethodName := ⟨RX11, "basket", "(I)I"⟩
abbrev cX11_ends : ByteArray := prog_1_method_10_code
def yX11_ends : MethodName := ⟨RX11, "ends", "(II)I"⟩
abbrev cX11_out : ByteArray := prog_1_method_11_code
def yX11_out : MethodName := ⟨RX11, "out", "(I)I"⟩
abbrev cX11_serve : ByteArray := prog_1_method_12_code
def yX11_serve : MethodName := ⟨RX11, "serve", "(II)I"⟩
abbrev cX11_day : ByteArray := prog_1_method_13_code
def yX11_day : MethodName := ⟨RX11, "day", "(III)I"⟩
abbrev cX11_days : ByteArray := prog_1_method_14_code
def yX11_days : MethodName := ⟨RX11, "days", "(IIIII)I"⟩
abbrev cX11_known : ByteArray := prog_1_method_15_code
def yX11_known : MethodName := ⟨RX11, "known", "(I)I"⟩
abbrev cX11_all : ByteArray := prog_1_method_16_code
def yX11_all : MethodName := ⟨RX11, "all", "(I)I"⟩
abbrev cX11_weight : ByteArray := prog_1_method_17_code
def yX11_weight : MethodName := ⟨RX11, "weight", "(II)I"⟩
abbrev cX11_which : ByteArray := prog_1_method_18_code
def yX11_which : MethodName := ⟨RX11, "which", "(III)J"⟩
abbrev cX11_drops : ByteArray := prog_1_method_19_code
def yX11_drops : MethodName := ⟨RX11, "drops", "(II)I"⟩
abbrev cX11_lots : ByteArray := prog_1_method_20_code
def yX11_lots : MethodName := ⟨RX11, "lots", "(II)I"⟩
abbrev cX11_meet : ByteArray := prog_1_method_21_code
def yX11_meet : MethodName := ⟨RX11, "meet", "(IIII)I"⟩
abbrev cX11_seam : ByteArray := prog_1_method_22_code
def yX11_seam : MethodName := ⟨RX11, "seam", "(III)I"⟩
abbrev cX11_made : ByteArray := prog_1_method_23_code
def yX11_made : MethodName := ⟨RX11, "made", "()I"⟩
abbrev cX11_madeOf : ByteArray := prog_1_method_24_code
def yX11_madeOf : MethodName := ⟨RX11, "madeOf", "(III)I"⟩
abbrev cX11_line : ByteArray := prog_1_method_25_code
def yX11_line : MethodName := ⟨RX11, "line", "(III)I"⟩
abbrev cX11_level : ByteArray := prog_1_method_26_code
def yX11_level : MethodName := ⟨RX11, "level", "(II)I"⟩
abbrev cX11_sale : ByteArray := prog_1_method_27_code
def yX11_sale : MethodName := ⟨RX11, "sale", "(IIII)I"⟩
abbrev cX11_roll : ByteArray := prog_1_method_28_code
def yX11_roll : MethodName := ⟨RX11, "roll", "(IIII)I"⟩
abbrev cX11_entry : ByteArray := prog_1_method_29_code
def yX11_entry : MethodName := ⟨RX11, "entry", "(II)I"⟩
abbrev cX11_rod : ByteArray := prog_1_method_30_code
def yX11_rod : MethodName := ⟨RX11, "rod", "(II)I"⟩
abbrev cX11_seed : ByteArray := prog_1_method_31_code
def yX11_seed : MethodName := ⟨RX11, "seed", "(I)I"⟩
abbrev cX11_status : ByteArray := prog_1_method_32_code
def yX11_status : MethodName := ⟨RX11, "status", "(I)I"⟩
abbrev cX11_count : ByteArray := prog_1_method_33_code
def yX11_count : MethodName := ⟨RX11, "count", "(I)I"⟩
abbrev cX11_image : ByteArray := prog_1_method_34_code
def yX11_image : MethodName := ⟨RX11, "image", "(I)I"⟩
abbrev cX11_back : ByteArray := prog_1_method_35_code
def yX11_back : MethodName := ⟨RX11, "back", "(I)I"⟩
abbrev cX11_within : ByteArray := prog_1_method_36_code
def yX11_within : MethodName := ⟨RX11, "within", "(III)Z"⟩
abbrev cX11_isDay : ByteArray := prog_1_method_37_code
def yX11_isDay : MethodName := ⟨RX11, "isDay", "(II)Z"⟩
abbrev cX11_areDrops : ByteArray := prog_1_method_38_code
def yX11_areDrops : MethodName := ⟨RX11, "areDrops", "(II)Z"⟩
abbrev cX11_hasRule : ByteArray := prog_1_method_39_code
def yX11_hasRule : MethodName := ⟨RX11, "hasRule", "(I)Z"⟩
abbrev cX11_refuse : ByteArray := prog_1_method_40_code
def yX11_refuse : MethodName := ⟨RX11, "refuse", "(I)I"⟩
abbrev cX11_carryOff : ByteArray := prog_1_method_41_code
def yX11_carryOff : MethodName := ⟨RX11, "carryOff", "(III)I"⟩
def RX12 : String := "ClothEndsModel"
def TX12 : u_T := fun k => match k with
  | 0 => ("ClothEndsModel", "thrown", "I", false)
  | 1 => ("ClothEndsModel", "status", "[I", true)
  | 2 => ("ClothEndsModel", "scalar", "[I", true)
  | 3 => ("ClothEndsModel", "left", "[I", true)
  | 4 => ("ClothEndsModel", "width", "[I", true)
  | 5 => ("ClothEndsModel", "lot", "[I", true)
  | 6 => ("ClothEndsModel", "stripe", "[I", true)
  | 7 => ("ClothEndsModel", "flawOf", "[I", true)
  | 8 => ("ClothEndsModel", "flawAt", "[I", true)
  | 9 => ("ClothEndsModel", "formLong", "[I", true)
  | 10 => ("ClothEndsModel", "formWide", "[I", true)
  | 11 => ("ClothEndsModel", "formWorth", "[I", true)
  | 12 => ("ClothEndsModel", "newScalar", "[I", true)
  | 13 => ("ClothEndsModel", "newLeft", "[I", true)
  | 14 => ("ClothEndsModel", "newWidth", "[I", true)
  | 15 => ("ClothEndsModel", "newLot", "[I", true)
  | 16 => ("ClothEndsModel", "newStripe", "[I", true)
  | 17 => ("ClothEndsModel", "newFlawOf", "[I", true)
  | 18 => ("ClothEndsModel", "newFlawAt", "[I", true)
  | 19 => ("ClothEndsModel", "newFormLong", "[I", true)
  | 20 => ("ClothEndsModel", "newFormWide", "[I", true)
  | 21 => ("ClothEndsModel", "newFormWorth", "[I", true)
  | 22 => ("ClothEndsModel", "endLong", "[I", true)
  | 23 => ("ClothEndsModel", "endWide", "[I", true)
  | 24 => ("ClothEndsModel", "endLot", "[I", true)
  | 25 => ("ClothEndsModel", "endFlaws", "[I", true)
  | 26 => ("ClothEndsModel", "knownOrder", "[I", true)
  | 27 => ("ClothEndsModel", "weights", "[I", true)
  | 28 => ("ClothEndsModel", "levelPrice", "[I", true)
  | 29 => ("ClothEndsModel", "levelMost", "[I", true)
  | 30 => ("ClothEndsModel", "bookClerk", "[I", true)
  | 31 => ("ClothEndsModel", "bookSold", "[I", true)
  | 32 => ("ClothEndsModel", "taped", "I", false)
  | 33 => ("ClothEndsModel", "p", "I", false)
  | 34 => ("ClothEndsModel", "fault", "I", false)
  | 35 => ("ClothEndsModel", "slot", "I", false)
  | 36 => ("ClothEndsModel", "rules", "I", false)
  | 37 => ("ClothEndsModel", "entries", "I", false)
  | 38 => ("ClothEndsModel", "deep", "I", false)
  | 39 => ("ClothEndsModel", "counted", "I", false)
  | 40 => ("ClothEndsModel", "opened", "I", false)
  | 41 => ("ClothEndsModel", "words", "I", false)
  | 42 => ("ClothEndsModel", "onceTold", "I", false)
  | 43 => ("ClothEndsModel", "tape", "[B", true)
  | 44 => ("ClothEndsModel", "sort", "[I", true)
  | 45 => ("ClothEndsModel", "number", "[I", true)
  | 46 => ("ClothEndsModel", "clauses", "[I", true)
  | 47 => ("ClothEndsModel", "ofGift", "[I", true)
  | 48 => ("ClothEndsModel", "sumAt", "[I", true)
  | 49 => ("ClothEndsModel", "testAt", "[I", true)
  | 50 => ("ClothEndsModel", "endAt", "[I", true)
  | 51 => ("ClothEndsModel", "open", "[I", true)
  | 52 => ("ClothEndsModel", "asked", "[J", true)
  | 53 => ("ClothEndsModel", "stack", "[J", true)
  | 54 => ("ClothEndsModel", "keptScalar", "[I", true)
  | 55 => ("ClothEndsModel", "keptLeft", "[I", true)
  | 56 => ("ClothEndsModel", "keptFlaw", "[I", true)
  | 57 => ("ClothEndsModel", "wasted", "[I", true)
  | 58 => ("ClothEndsModel", "costs", "[I", true)
  | 59 => ("ClothEndsModel", "mean", "[J", true)
  | 60 => ("ClothEndsModel", "fewBales", "[I", true)
  | 61 => ("ClothEndsModel", "fewLeft", "[I", true)
  | 62 => ("ClothEndsModel", "fewMany", "I", false)
  | 63 => ("ClothEndsModel", "worths", "[I", true)
  | 64 => ("ClothEndsModel", "alone", "[I", true)
  | 65 => ("ClothEndsModel", "madeBy", "[I", true)
  | 66 => ("ClothEndsModel", "coins", "[I", true)
  | 67 => ("ClothEndsModel", "images", "[I", true)
  | 68 => ("ClothEndsModel", "isMade", "[Z", true)
  | 69 => ("ClothEndsModel", "imageAt", "I", false)
  | _ => ("ClothEndsModel", "goesBack", "Z", false)
def tyX12 : Nat → FieldType := fun k => match k with
  | 0 => .int
  | 1 => .array .int
  | 2 => .array .int
  | 3 => .array .int
  | 4 => .array .int
  | 5 => .array .int
  | 6 => .array .int
  | 7 => .array .int
  | 8 => .array .int
  | 9 => .array .int
  | 10 => .array .int
  | 11 => .array .int
  | 12 => .array .int
  | 13 => .array .int
  | 14 => .array .int
  | 15 => .array .int
  | 16 => .array .int
  | 17 => .array .int
  | 18 => .array .int
  | 19 => .array .int
  | 20 => .array .int
  | 21 => .array .int
  | 22 => .array .int
  | 23 => .array .int
  | 24 => .array .int
  | 25 => .array .int
  | 26 => .array .int
  | 27 => .array .int
  | 28 => .array .int
  | 29 => .array .int
  | 30 => .array .int
  | 31 => .array .int
  | 32 => .int
  | 33 => .int
  | 34 => .int
  | 35 => .int
  | 36 => .int
  | 37 => .int
  | 38 => .int
  | 39 => .int
  | 40 => .int
  | 41 => .int
  | 42 => .int
  | 43 => .array .byte
  | 44 => .array .int
  | 45 => .array .int
  | 46 => .array .int
  | 47 => .array .int
  | 48 => .array .int
  | 49 => .array .int
  | 50 => .array .int
  | 51 => .array .int
  | 52 => .array .long
  | 53 => .array .long
  | 54 => .array .int
  | 55 => .array .int
  | 56 => .array .int
  | 57 => .array .int
  | 58 => .array .int
  | 59 => .array .long
  | 60 => .array .int
  | 61 => .array .int
  | 62 => .int
  | 63 => .array .int
  | 64 => .array .int
  | 65 => .array .int
  | 66 => .array .int
  | 67 => .array .int
  | 68 => .array .boolean
  | 69 => .int
  | _ => .boolean
theorem nmX12 : ∀ a, a < 71 → ∀ b, b < 71 → a ≠ b → (TX12 a).2.1 ≠ (TX12 b).2.1 := by decide +kernel
theorem tyX12_ok : ∀ k, k < 71 → parseFieldDescriptor (TX12 k).2.2.1 = some (tyX12 k) := by decide +kernel
abbrev cX12_init : ByteArray := prog_14_method_1_code
def yX12_init : MethodName := ⟨RX12, "<init>", "()V"⟩
abbrev cX12_in : ByteArray := prog_14_method_3_code
def yX12_in : MethodName := ⟨RX12, "in", "(JJJ)Z"⟩
abbrev cX12_has : ByteArray := prog_14_method_4_code
def yX12_has : MethodName := ⟨RX12, "has", "(II)Z"⟩
abbrev cX12_divisor : ByteArray := prog_14_method_5_code
def yX12_divisor : MethodName := ⟨RX12, "divisor", "(JJ)J"⟩
abbrev cX12_refuses : ByteArray := prog_14_method_6_code
def yX12_refuses : MethodName := ⟨RX12, "refuses", "(I)I"⟩
abbrev cX12_isBale : ByteArray := prog_14_method_7_code
def yX12_isBale : MethodName := ⟨RX12, "isBale", "(I)Z"⟩
abbrev cX12_flawsIn : ByteArray := prog_14_method_8_code
def yX12_flawsIn : MethodName := ⟨RX12, "flawsIn", "(II)I"⟩
abbrev cX12_leftInAll : ByteArray := prog_14_method_9_code
def yX12_leftInAll : MethodName := ⟨RX12, "leftInAll", "()I"⟩
abbrev cX12_feed : ByteArray := prog_14_method_10_code
def yX12_feed : MethodName := ⟨RX12, "feed", "(IIIII)I"⟩
abbrev cX12_put : ByteArray := prog_14_method_11_code
def yX12_put : MethodName := ⟨RX12, "put", "(I)V"⟩
abbrev cX12_end : ByteArray := prog_14_method_12_code
def yX12_end : MethodName := ⟨RX12, "end", "(I)I"⟩
abbrev cX12_wordOf : ByteArray := prog_14_method_13_code
def yX12_wordOf : MethodName := ⟨RX12, "wordOf", "(I)Ljava/lang/String;"⟩
abbrev cX12_shopWord : ByteArray := prog_14_method_14_code
def yX12_shopWord : MethodName := ⟨RX12, "shopWord", "(I)Ljava/lang/String;"⟩
abbrev cX12_fails : ByteArray := prog_14_method_15_code
def yX12_fails : MethodName := ⟨RX12, "fails", "(II)V"⟩
abbrev cX12_sign : ByteArray := prog_14_method_16_code
def yX12_sign : MethodName := ⟨RX12, "sign", "()I"⟩
abbrev cX12_blanks : ByteArray := prog_14_method_17_code
def yX12_blanks : MethodName := ⟨RX12, "blanks", "()V"⟩
abbrev cX12_isDigit : ByteArray := prog_14_method_18_code
def yX12_isDigit : MethodName := ⟨RX12, "isDigit", "()Z"⟩
abbrev cX12_stood : ByteArray := prog_14_method_19_code
def yX12_stood : MethodName := ⟨RX12, "stood", "(Ljava/lang/String;)Z"⟩
abbrev cX12_takes : ByteArray := prog_14_method_20_code
def yX12_takes : MethodName := ⟨RX12, "takes", "(Ljava/lang/String;)Z"⟩
abbrev cX12_entered : ByteArray := prog_14_method_21_code
def yX12_entered : MethodName := ⟨RX12, "entered", "(II)V"⟩
abbrev cX12_isCounted : ByteArray := prog_14_method_22_code
def yX12_isCounted : MethodName := ⟨RX12, "isCounted", "(I)V"⟩
abbrev cX12_digits : ByteArray := prog_14_method_23_code
def yX12_digits : MethodName := ⟨RX12, "digits", "(I)I"⟩
abbrev cX12_value : ByteArray := prog_14_method_24_code
def yX12_value : MethodName := ⟨RX12, "value", "()V"⟩
abbrev cX12_term : ByteArray := prog_14_method_25_code
def yX12_term : MethodName := ⟨RX12, "term", "()V"⟩
abbrev cX12_sum : ByteArray := prog_14_method_26_code
def yX12_sum : MethodName := ⟨RX12, "sum", "()V"⟩
abbrev cX12_compared : ByteArray := prog_14_method_27_code
def yX12_compared : MethodName := ⟨RX12, "compared", "()V"⟩
abbrev cX12_top : ByteArray := prog_14_method_28_code
def yX12_top : MethodName := ⟨RX12, "top", "()I"⟩
abbrev cX12_opens : ByteArray := prog_14_method_29_code
def yX12_opens : MethodName := ⟨RX12, "opens", "(I)V"⟩
abbrev cX12_answers : ByteArray := prog_14_method_30_code
def yX12_answers : MethodName := ⟨RX12, "answers", "(I)V"⟩
abbrev cX12_fact : ByteArray := prog_14_method_31_code
def yX12_fact : MethodName := ⟨RX12, "fact", "()Z"⟩
abbrev cX12_test : ByteArray := prog_14_method_32_code
def yX12_test : MethodName := ⟨RX12, "test", "()V"⟩
abbrev cX12_amount : ByteArray := prog_14_method_33_code
def yX12_amount : MethodName := ⟨RX12, "amount", "(II)I"⟩
abbrev cX12_shopPart : ByteArray := prog_14_method_34_code
def yX12_shopPart : MethodName := ⟨RX12, "shopPart", "(I)V"⟩
abbrev cX12_isFull : ByteArray := prog_14_method_35_code
def yX12_isFull : MethodName := ⟨RX12, "isFull", "(II)Z"⟩
abbrev cX12_shopClause : ByteArray := prog_14_method_36_code
def yX12_shopClause : MethodName := ⟨RX12, "shopClause", "(I)V"⟩
abbrev cX12_lay : ByteArray := prog_14_method_37_code
def yX12_lay : MethodName := ⟨RX12, "lay", "([I[I)V"⟩
abbrev cX12_goesOn : ByteArray := prog_14_method_38_code
def yX12_goesOn : MethodName := ⟨RX12, "goesOn", "()Z"⟩
abbrev cX12_starts : ByteArray := prog_14_method_39_code
def yX12_starts : MethodName := ⟨RX12, "starts", "()V"⟩
abbrev cX12_shop : ByteArray := prog_14_method_40_code
def yX12_shop : MethodName := ⟨RX12, "shop", "()I"⟩
abbrev cX12_ruleClause : ByteArray := prog_14_method_41_code
def yX12_ruleClause : MethodName := ⟨RX12, "ruleClause", "(I)V"⟩
abbrev cX12_rule : ByteArray := prog_14_method_42_code
def yX12_rule : MethodName := ⟨RX12, "rule", "()I"⟩
abbrev cX12_isRule : ByteArray := prog_14_method_43_code
def yX12_isRule : MethodName := ⟨RX12, "isRule", "(I)Z"⟩
abbrev cX12_truth : ByteArray := prog_14_method_44_code
def yX12_truth : MethodName := ⟨RX12, "truth", "(Z)J"⟩
abbrev cX12_both : ByteArray := prog_14_method_45_code
def yX12_both : MethodName := ⟨RX12, "both", "(IJJ)J"⟩
abbrev cX12_answer : ByteArray := prog_14_method_46_code
def yX12_answer : MethodName := ⟨RX12, "answer", "(III)J"⟩
abbrev cX12_bale : ByteArray := prog_14_method_47_code
def yX12_bale : MethodName := ⟨RX12, "bale", "(II)I"⟩
abbrev cX12_nearest : ByteArray := prog_14_method_48_code
def yX12_nearest : MethodName := ⟨RX12, "nearest", "(I)I"⟩
abbrev cX12_isEnd : ByteArray := prog_14_method_49_code
def yX12_isEnd : MethodName := ⟨RX12, "isEnd", "(I)Z"⟩
abbrev cX12_taken : ByteArray := prog_14_method_50_code
def yX12_taken : MethodName := ⟨RX12, "taken", "(III)I"⟩
abbrev cX12_takes0 : ByteArray := prog_14_method_51_code
def yX12_takes0 : MethodName := ⟨RX12, "takes0", "(II)V"⟩
abbrev cX12_cuts : ByteArray := prog_14_method_52_code
def yX12_cuts : MethodName := ⟨RX12, "cuts", "(III)V"⟩
abbrev cX12_cutsBy : ByteArray := prog_14_method_53_code
def yX12_cutsBy : MethodName := ⟨RX12, "cutsBy", "(III)I"⟩
abbrev cX12_cut : ByteArray := prog_14_method_54_code
def yX12_cut : MethodName := ⟨RX12, "cut", "(II)I"⟩
abbrev cX12_tear : ByteArray := prog_14_method_55_code
def yX12_tear : MethodName := ⟨RX12, "tear", "(II)I"⟩
abbrev cX12_basket : ByteArray := prog_14_method_56_code
def yX12_basket : MethodName := ⟨RX12, "basket", "(I)I"⟩
abbrev cX12_isInBasket : ByteArray := prog_14_method_57_code
def yX12_isInBasket : MethodName := ⟨RX12, "isInBasket", "(I)Z"⟩
abbrev cX12_ends : ByteArray := prog_14_method_58_code
def yX12_ends : MethodName := ⟨RX12, "ends", "(II)I"⟩
abbrev cX12_out : ByteArray := prog_14_method_59_code
def yX12_out : MethodName := ⟨RX12, "out", "(I)I"⟩
abbrev cX12_asks : ByteArray := prog_14_method_60_code
def yX12_asks : MethodName := ⟨RX12, "asks", "(II)V"⟩
abbrev cX12_holds : ByteArray := prog_14_method_61_code
def yX12_holds : MethodName := ⟨RX12, "holds", "(II)Z"⟩
abbrev cX12_clauseOf : ByteArray := prog_14_method_62_code
def yX12_clauseOf : MethodName := ⟨RX12, "clauseOf", "(I)I"⟩
abbrev cX12_isGiven : ByteArray := prog_14_method_63_code
def yX12_isGiven : MethodName := ⟨RX12, "isGiven", "(I)Z"⟩
abbrev cX12_serves : ByteArray := prog_14_method_64_code
def yX12_serves : MethodName := ⟨RX12, "serves", "(II)I"⟩
abbrev cX12_serve : ByteArray := prog_14_method_65_code
def yX12_serve : MethodName := ⟨RX12, "serve", "(II)I"⟩
abbrev cX12_draws : ByteArray := prog_14_method_66_code
def yX12_draws : MethodName := ⟨RX12, "draws", "(I)I"⟩
abbrev cX12_goesDay : ByteArray := prog_14_method_67_code
def yX12_goesDay : MethodName := ⟨RX12, "goesDay", "(III)I"⟩
abbrev cX12_isDay : ByteArray := prog_14_method_68_code
def yX12_isDay : MethodName := ⟨RX12, "isDay", "(III)Z"⟩
abbrev cX12_day : ByteArray := prog_14_method_69_code
def yX12_day : MethodName := ⟨RX12, "day", "(III)I"⟩
abbrev cX12_days : ByteArray := prog_14_method_70_code
def yX12_days : MethodName := ⟨RX12, "days", "(IIIII)I"⟩
abbrev cX12_known : ByteArray := prog_14_method_71_code
def yX12_known : MethodName := ⟨RX12, "known", "(I)I"⟩
abbrev cX12_sumOf : ByteArray := prog_14_method_72_code
def yX12_sumOf : MethodName := ⟨RX12, "sumOf", "(I)I"⟩
abbrev cX12_wastedBy : ByteArray := prog_14_method_73_code
def yX12_wastedBy : MethodName := ⟨RX12, "wastedBy", "(II)I"⟩
abbrev cX12_all : ByteArray := prog_14_method_74_code
def yX12_all : MethodName := ⟨RX12, "all", "(I)I"⟩
abbrev cX12_weight : ByteArray := prog_14_method_75_code
def yX12_weight : MethodName := ⟨RX12, "weight", "(II)I"⟩
abbrev cX12_findsFew : ByteArray := prog_14_method_76_code
def yX12_findsFew : MethodName := ⟨RX12, "findsFew", "()Z"⟩
abbrev cX12_placeOf : ByteArray := prog_14_method_77_code
def yX12_placeOf : MethodName := ⟨RX12, "placeOf", "(I)I"⟩
abbrev cX12_leftIn : ByteArray := prog_14_method_78_code
def yX12_leftIn : MethodName := ⟨RX12, "leftIn", "(II)I"⟩
abbrev cX12_stateBehind : ByteArray := prog_14_method_79_code
def yX12_stateBehind : MethodName := ⟨RX12, "stateBehind", "(III)I"⟩
abbrev cX12_mostFor : ByteArray := prog_14_method_80_code
def yX12_mostFor : MethodName := ⟨RX12, "mostFor", "(IIJI)J"⟩
abbrev cX12_allWeights : ByteArray := prog_14_method_81_code
def yX12_allWeights : MethodName := ⟨RX12, "allWeights", "()I"⟩
abbrev cX12_fillsMeans : ByteArray := prog_14_method_82_code
def yX12_fillsMeans : MethodName := ⟨RX12, "fillsMeans", "(I)I"⟩
abbrev cX12_which : ByteArray := prog_14_method_83_code
def yX12_which : MethodName := ⟨RX12, "which", "(III)J"⟩
abbrev cX12_dropsOf : ByteArray := prog_14_method_84_code
def yX12_dropsOf : MethodName := ⟨RX12, "dropsOf", "(II)I"⟩
abbrev cX12_drops : ByteArray := prog_14_method_85_code
def yX12_drops : MethodName := ⟨RX12, "drops", "(II)I"⟩
abbrev cX12_lots : ByteArray := prog_14_method_86_code
def yX12_lots : MethodName := ⟨RX12, "lots", "(II)I"⟩
abbrev cX12_meet : ByteArray := prog_14_method_87_code
def yX12_meet : MethodName := ⟨RX12, "meet", "(IIII)I"⟩
abbrev cX12_isSeam : ByteArray := prog_14_method_88_code
def yX12_isSeam : MethodName := ⟨RX12, "isSeam", "(IIII)Z"⟩
abbrev cX12_seam : ByteArray := prog_14_method_89_code
def yX12_seam : MethodName := ⟨RX12, "seam", "(III)I"⟩
abbrev cX12_fillsWorths : ByteArray := prog_14_method_90_code
def yX12_fillsWorths : MethodName := ⟨RX12, "fillsWorths", "(I)V"⟩
abbrev cX12_madeOf : ByteArray := prog_14_method_91_code
def yX12_madeOf : MethodName := ⟨RX12, "madeOf", "(III)I"⟩
abbrev cX12_pairOf : ByteArray := prog_14_method_92_code
def yX12_pairOf : MethodName := ⟨RX12, "pairOf", "(II)I"⟩
abbrev cX12_made : ByteArray := prog_14_method_93_code
def yX12_made : MethodName := ⟨RX12, "made", "()I"⟩
abbrev cX12_line : ByteArray := prog_14_method_94_code
def yX12_line : MethodName := ⟨RX12, "line", "(III)I"⟩
abbrev cX12_level : ByteArray := prog_14_method_95_code
def yX12_level : MethodName := ⟨RX12, "level", "(II)I"⟩
abbrev cX12_coinsBy : ByteArray := prog_14_method_96_code
def yX12_coinsBy : MethodName := ⟨RX12, "coinsBy", "(IIII)I"⟩
abbrev cX12_sale : ByteArray := prog_14_method_97_code
def yX12_sale : MethodName := ⟨RX12, "sale", "(IIII)I"⟩
abbrev cX12_roll : ByteArray := prog_14_method_98_code
def yX12_roll : MethodName := ⟨RX12, "roll", "(IIII)I"⟩
abbrev cX12_entry : ByteArray := prog_14_method_99_code
def yX12_entry : MethodName := ⟨RX12, "entry", "(II)I"⟩
abbrev cX12_soldBy : ByteArray := prog_14_method_100_code
def yX12_soldBy : MethodName := ⟨RX12, "soldBy", "(I)I"⟩
abbrev cX12_rod : ByteArray := prog_14_method_101_code
def yX12_rod : MethodName := ⟨RX12, "rod", "(II)I"⟩
abbrev cX12_seed : ByteArray := prog_14_method_102_code
def yX12_seed : MethodName := ⟨RX12, "seed", "(I)I"⟩
abbrev cX12_status : ByteArray := prog_14_method_103_code
def yX12_status : MethodName := ⟨RX12, "status", "(I)I"⟩
abbrev cX12_count : ByteArray := prog_14_method_104_code
def yX12_count : MethodName := ⟨RX12, "count", "(I)I"⟩
abbrev cX12_carry : ByteArray := prog_14_method_105_code
def yX12_carry : MethodName := ⟨RX12, "carry", "([I)V"⟩
abbrev cX12_carriesAll : ByteArray := prog_14_method_106_code
def yX12_carriesAll : MethodName := ⟨RX12, "carriesAll", "(IZ)V"⟩
abbrev cX12_image : ByteArray := prog_14_method_107_code
def yX12_image : MethodName := ⟨RX12, "image", "(I)I"⟩
abbrev cX12_back : ByteArray := prog_14_method_108_code
def yX12_back : MethodName := ⟨RX12, "back", "(I)I"⟩
def RJ6 : String := "java/lang/Integer"
abbrev cJ6_bitCount_0f7a4 : ByteArray := prog_15_method_49_code
def yJ6_bitCount_0f7a4 : MethodName := ⟨RJ6, "bitCount", "(I)I"⟩
def RJ9 : String := "java/lang/Math"
abbrev cJ9_max_7cf53 : ByteArray := prog_16_method_65_code
def yJ9_max_7cf53 : MethodName := ⟨RJ9, "max", "(II)I"⟩
abbrev cJ9_max_f86c9 : ByteArray := prog_16_method_66_code
def yJ9_max_f86c9 : MethodName := ⟨RJ9, "max", "(JJ)J"⟩
abbrev cJ9_min_7cf53 : ByteArray := prog_16_method_69_code
def yJ9_min_7cf53 : MethodName := ⟨RJ9, "min", "(II)I"⟩
def RJ0 : String := "java/lang/String"
abbrev cJ0_length_8abf5 : ByteArray := prog_17_method_54_code
def yJ0_length_8abf5 : MethodName := ⟨RJ0, "length", "()I"⟩
abbrev cJ0_charAt_5068e : ByteArray := prog_17_method_56_code
def yJ0_charAt_5068e : MethodName := ⟨RJ0, "charAt", "(I)C"⟩
abbrev cJ0_coder_7d493 : ByteArray := prog_17_method_152_code
def yJ0_coder_7d493 : MethodName := ⟨RJ0, "coder", "()B"⟩
abbrev cJ0_isLatin1_aae02 : ByteArray := prog_17_method_154_code
def yJ0_isLatin1_aae02 : MethodName := ⟨RJ0, "isLatin1", "()Z"⟩
abbrev cJ0_checkIndex_df160 : ByteArray := prog_17_method_155_code
def yJ0_checkIndex_df160 : MethodName := ⟨RJ0, "checkIndex", "(II)V"⟩
def RJ1 : String := "java/lang/StringLatin1"
abbrev cJ1_charAt_3b067 : ByteArray := prog_18_method_2_code
def yJ1_charAt_3b067 : MethodName := ⟨RJ1, "charAt", "([BI)C"⟩
def RJ2 : String := "java/lang/StringUTF16"
abbrev cJ2_getChar_3b067 : ByteArray := prog_19_method_5_code
def yJ2_getChar_3b067 : MethodName := ⟨RJ2, "getChar", "([BI)C"⟩
abbrev cJ2_length_9d52b : ByteArray := prog_19_method_6_code
def yJ2_length_9d52b : MethodName := ⟨RJ2, "length", "([B)I"⟩
abbrev cJ2_charAt_3b067 : ByteArray := prog_19_method_83_code
def yJ2_charAt_3b067 : MethodName := ⟨RJ2, "charAt", "([BI)C"⟩
abbrev cJ2_checkIndex_2214a : ByteArray := prog_19_method_91_code
def yJ2_checkIndex_2214a : MethodName := ⟨RJ2, "checkIndex", "(I[B)V"⟩
def RJ3 : String := "jdk/internal/util/Preconditions"
abbrev cJ3_checkIndex_8e157 : ByteArray := prog_20_method_11_code
def yJ3_checkIndex_8e157 : MethodName := ⟨RJ3, "checkIndex", "(IILjava/util/function/BiFunction;)I"⟩
def RL : String := "ClothEndsLaw"
abbrev cL_law : ByteArray := code
def yL_law : MethodName := ⟨RL, "law", "([I)Z"⟩
abbrev vwCl : List vw_C := [(RX0, TX0, 3), (RX1, TX1, 5), (RX2, TX2, 8), (RX3, TX3, 8), (RX4, TX4, 4), (RX5, TX5, 17), (RX6, TX6, 4), (RX7, TX7, 14), (RX8, TX8, 3), (RX9, TX9, 8), (RX10, TX10, 9), (RX11, TX11, 14), (RX12, TX12, 71)]
/-! ===== tables: what lies where ===== -/
def clsL : List Nat := [11, 8, 7, 5, 9, 7, 5, 9, 7, 5, 9, 7, 5, 9, 7, 5, 9, 7, 5, 9, 6, 5, 3, 2, 0, 1, 10, 4, 2, 2, 2, 2, 2, 2, 12]
def cls (o : Nat) : Nat := clsL.getD o 99
def ftL : List (List (Nat × Nat)) := [[(3, 81), (3, 10), (5, 10)],
  [(3, 512), (3, 512), (0, 0), (0, 0), (0, 0)],
  [(3, 400), (0, 0), (5, 12), (3, 12), (3, 12), (3, 12), (0, 0), (4, 40)],
  [(9, 0), (9, 0), (0, 0), (0, 0), (3, 40), (0, 0), (0, 0), (0, 0)],
  [(3, 2405), (0, 0), (0, 0), (0, 0)],
  [(3, 12), (3, 12), (3, 12), (3, 12), (0, 0), (3, 16), (3, 16), (0, 0), (0, 0), (0, 0), (0, 0), (3, 8), (3, 8), (3, 8), (0, 0), (0, 0), (0, 0)],
  [(9, 0), (9, 0), (3, 4), (3, 7)],
  [(9, 0), (9, 0), (3, 10), (3, 10), (3, 10), (3, 10), (0, 0), (0, 0), (0, 0), (0, 0), (0, 0), (0, 0), (0, 0), (4, 9)],
  [(3, 400), (0, 0), (0, 0)],
  [(3, 9), (0, 0), (3, 9), (3, 5), (3, 5), (0, 0), (3, 6), (0, 0)],
  [(3, 3), (3, 3), (0, 0), (3, 9), (4, 9), (4, 5), (0, 0), (1, 0), (1, 0)],
  [(9, 0), (9, 0), (9, 0), (7, 4), (5, 4), (8, 6), (0, 0), (3, 3), (9, 0), (9, 0), (9, 0), (9, 0), (9, 0), (9, 0)],
  [(0, 0), (3, 3), (3, 18), (3, 12), (3, 12), (3, 12), (3, 12), (3, 16), (3, 16), (3, 8), (3, 8), (3, 8), (3, 8), (3, 12), (3, 12), (3, 12), (3, 12), (3, 16), (3, 16), (3, 8), (3, 8), (3, 8), (3, 10), (3, 10), (3, 10), (3, 10), (3, 9), (3, 9), (3, 5), (3, 5), (3, 20), (3, 20), (0, 0), (0, 0), (0, 0), (0, 0), (0, 0), (0, 0), (0, 0), (0, 0), (0, 0), (0, 0), (0, 0), (6, 400), (3, 1800), (3, 1800), (3, 6), (3, 72), (3, 72), (3, 72), (3, 72), (3, 402), (4, 9), (4, 300), (3, 18), (3, 12), (3, 16), (3, 512), (3, 512), (4, 137842), (3, 3), (3, 3), (0, 0), (3, 81), (3, 10), (3, 1024), (3, 4810), (3, 1000), (5, 4), (0, 0), (2, 0)]]
def ftab (ci j : Nat) : Nat × Nat := (ftL.getD ci []).getD j (99, 0)
def subC (ci j o : Nat) : Nat := match ci, j with
  | 11, 0 => 1
  | 11, 1 => 2
  | 11, 2 => 5
  | 11, 8 => 20
  | 11, 9 => 22
  | 11, 10 => 24
  | 11, 11 => 25
  | 11, 12 => 26
  | 11, 13 => 27
  | 7, 0 => o + 1
  | 7, 1 => o + 2
  | 6, 0 => 1
  | 6, 1 => 21
  | 3, 0 => 1
  | 3, 1 => 23
  | _, _ => 0
def eltC (j : Nat) (i : Int) : Nat := match j with
  | 3 => 8 + 3 * i.toNat
  | _ => 28 + i.toNat
def ckL : List Nat := [0, 3, 3, 3, 3, 0, 0, 30, 0, 0, 20, 6, 20, 6, 20, 6, 20, 6, 20, 6, 20, 6, 20, 6, 20, 6, 20, 6, 20, 6, 20, 6, 20, 6, 20, 6, 20, 6, 20, 6, 20, 6, 20, 6, 20, 6, 20, 6, 20, 6, 20, 6, 20, 6, 20, 6, 20, 6, 20, 6]
def ckind (q : Nat) : Nat := ckL.getD q 0
def cvL : List (List Int) := [[],
  [12, 16, 1, 1, 1, 8, 1],
  [4, 2, 1, 1, 1, 3, 2],
  [1, 1, 0, 0, 0, 0, 0, 0, 0, 0, 0, 0, 0, 0, 0, 0, 0, 0, 0, 0, 1, 1, 0, 0, 1, 0, 0, 0],
  [480, 99, 9, 96, 0, 0, 0, 0, 8, 0, 0, 0, 8, 0, 0, 0, 80, 0, 0, 0, 80, 99, 999, 0, 80, 999, 0, 0],
  [],
  [],
  [],
  [],
  [],
  [],
  [98, 97, 108, 101, 32, 102, 108, 97, 119, 32, 116, 104, 117, 109, 98, 32, 97, 115, 107, 101, 119, 32, 98, 111, 97, 114, 100, 32, 102, 111, 114, 109, 32, 112, 97, 105, 114],
  [],
  [102, 114, 111, 109, 32, 103, 105, 118, 101],
  [],
  [110, 111, 116],
  [],
  [108, 101, 102, 116, 32, 111, 114, 100, 101, 114, 32, 114, 101, 115, 116, 32, 102, 108, 97, 119, 115, 32, 119, 105, 100, 116, 104, 32, 108, 111, 116, 32, 115, 116, 114, 105, 112, 101, 32, 98, 97, 108, 101, 32, 100, 97, 121],
  [],
  [97, 110, 100, 32, 111, 114],
  [],
  [105, 102],
  [],
  [98, 97, 108, 101],
  [],
  [102, 108, 97, 119],
  [],
  [116, 104, 117, 109, 98],
  [],
  [97, 115, 107, 101, 119],
  [],
  [98, 111, 97, 114, 100],
  [],
  [102, 111, 114, 109],
  [],
  [112, 97, 105, 114],
  [],
  [103, 105, 118, 101],
  [],
  [102, 114, 111, 109],
  [],
  [108, 101, 102, 116],
  [],
  [111, 114, 100, 101, 114],
  [],
  [114, 101, 115, 116],
  [],
  [102, 108, 97, 119, 115],
  [],
  [119, 105, 100, 116, 104],
  [],
  [108, 111, 116],
  [],
  [115, 116, 114, 105, 112, 101],
  [],
  [100, 97, 121],
  [],
  [97, 110, 100],
  [],
  [111, 114]]
def clen (q : Nat) : Nat := (cvL.getD q []).length
def cval (q : Nat) (i : Int) : Int := (cvL.getD q []).getD i.toNat 0
end
section
/-! ===== the little machine: values, store, one instruction, blocks ===== -/
abbrev Vl : Type := Int ⊕ (Int ⊕ (Option (Nat × Nat) ⊕ Nat))
abbrev vI (x : Int) : Vl := .inl x
abbrev vL (x : Int) : Vl := .inr (.inl x)
abbrev vR (o j : Nat) : Vl := .inr (.inr (.inl (some (o, j))))
abbrev vN : Vl := .inr (.inr (.inl none))
abbrev vC (k : Nat) : Vl := .inr (.inr (.inr k))
abbrev Mem : Type := Nat → Nat → Int → Int
abbrev Lc : Type := List (Nat × Vl)
abbrev Pst : Type := Option Vl → Mem → Prop
abbrev Cle : Type := List Vl → Mem → Pst → Prop
/-- a row of code: place, instruction, length, its number, its target -/
abbrev Ent : Type := Nat × (Instr × (Nat × (Int × Nat)))
/-- a method: locals, blocks (begin, live locals, rows), fields, constants, calls, the script -/
abbrev EE : Type := Nat × (List (Nat × (List Nat × List Ent)) × (List (Nat × (Nat × Nat)) × (List (Nat × (Nat × Vl)) × (List (Nat × ((Nat × (Nat × Nat)) × Cle)) × (Nat × (Nat → Int))))))
def iI (x : Int) : Int32 := Int32.ofInt x
def lI (x : Int) : Int64 := Int64.ofInt x
def wr (x : Int) : Int := (x + 2147483648) % 4294967296 - 2147483648
def wL (x : Int) : Int := (x + 9223372036854775808) % 18446744073709551616 - 9223372036854775808
def updM (σ : Mem) (o j : Nat) (i v : Int) : Mem := fun o' j' i' => if o' = o ∧ j' = j ∧ i' = i then v else σ o' j' i'
def idv (x y : Int) : Int := (iI x / iI y).toInt
def irm (x y : Int) : Int := (iI x - iI x / iI y * iI y).toInt
def ldv (x y : Int) : Int := (lI x / lI y).toInt
def lrm (x y : Int) : Int := (lI x - lI x / lI y * lI y).toInt
def bAnd (x y : Int) : Int := (iI x &&& iI y).toInt
def bOr (x y : Int) : Int := (iI x ||| iI y).toInt
def bXor (x y : Int) : Int := (iI x ^^^ iI y).toInt
def bShl (x y : Int) : Int := (iI x <<< (iI y &&& 31)).toInt
def bShr (x y : Int) : Int := (iI x >>> (iI y &&& 31)).toInt
def bUsh (x y : Int) : Int := ((iI x).toUInt32 >>> ((iI y).toUInt32 &&& Int32.toUInt32 31)).toInt32.toInt
def bAndL (x y : Int) : Int := (lI x &&& lI y).toInt
def bOrL (x y : Int) : Int := (lI x ||| lI y).toInt
def toB (x : Int) : Int := (iI x).toInt8.toInt32.toInt
def toC (x : Int) : Int := ((iI x).toUInt32 % 65536).toInt32.toInt
def lcp (x y : Int) : Int := (lg_cmp (lI x) (lI y)).toInt
def vcat : Vl → Nat
  | .inr (.inl _) => 2
  | _ => 1
def lget : Lc → Nat → Option Vl
  | [], _ => none
  | (i, v) :: r, n => if i = n then some v else lget r n
def lset1 (env : Lc) (n : Nat) (v : Vl) : Lc := (n, v) :: env.filter (fun q => !(q.1 == n) && !(q.1 + 1 == n && vcat q.2 == 2))
def lset2 (env : Lc) (n : Nat) (v : Vl) : Lc := (n, v) :: env.filter (fun q => !(q.1 == n) && (!(q.1 == n + 1) && !(q.1 + 1 == n && vcat q.2 == 2)))
def lkF : Nat → List (Nat × (Nat × Nat)) → Option (Nat × Nat)
  | _, [] => none
  | n, e :: r => if e.1 = n then some e.2 else lkF n r
def lkK : Nat → List (Nat × (Nat × Vl)) → Option (Nat × Vl)
  | _, [] => none
  | n, e :: r => if e.1 = n then some e.2 else lkK n r
def lkC : Nat → List (Nat × ((Nat × (Nat × Nat)) × Cle)) → Option ((Nat × (Nat × Nat)) × Cle)
  | _, [] => none
  | n, e :: r => if e.1 = n then some e.2 else lkC n r
def lkB : Nat → List (Nat × (List Nat × List Ent)) → Option (List Nat × List Ent)
  | _, [] => none
  | n, e :: r => if e.1 = n then some e.2 else lkB n r
def pI (st : List Vl) (k : Int → List Vl → Prop) : Prop := match st with
  | .inl x :: r => k x r
  | _ => False
def pL (st : List Vl) (k : Int → List Vl → Prop) : Prop := match st with
  | .inr (.inl x) :: r => k x r
  | _ => False
def pV (st : List Vl) (k : Vl → List Vl → Prop) : Prop := match st with
  | v :: r => k v r
  | _ => False
def pN : Nat → List Vl → List Vl → (List Vl → List Vl → Prop) → Prop
  | 0, acc, st, k => k acc st
  | n + 1, acc, v :: st, k => pN n (v :: acc) st k
  | _ + 1, _, [], _ => False
def gI (env : Lc) (n : Nat) (k : Int → Prop) : Prop := match lget env n with
  | some (.inl x) => k x
  | _ => False
def gL (env : Lc) (n : Nat) (k : Int → Prop) : Prop := match lget env n with
  | some (.inr (.inl x)) => k x
  | _ => False
def gA (env : Lc) (n : Nat) (k : Vl → Prop) : Prop := match lget env n with
  | some (.inr (.inr (.inl (some d)))) => k (vR d.1 d.2)
  | some (.inr (.inr (.inr c))) => ¬ c = 5 ∧ k (vC c)
  | _ => False
/-- the values of the live locals of a block -/
def coll : List Nat → Lc → List Vl → (List Vl → Prop) → Prop
  | [], _, acc, k => k acc.reverse
  | n :: r, env, acc, k => match lget env n with
    | some v => coll r env (v :: acc) k
    | none => False
def jmp (E : EE) (P : Nat → List Vl → List Vl → Mem → Prop) (t : Nat) (env : Lc) (st : List Vl) (σ : Mem) : Prop := match lkB t E.2.1 with
  | some b => coll b.1 env [] (fun vals => P t vals st σ)
  | none => False
def cmpP (c : Jvm.ClassFile.Cond) (x y : Int) : Prop := match c with
  | .eq => x = y
  | .ne => ¬ x = y
  | .lt => x < y
  | .ge => y ≤ x
  | .gt => y < x
  | .le => x ≤ y
def swt (f : Nat → Prop) (x : Int) (pc : Nat) : List Int → Int → Prop
  | [], _ => True
  | off :: r, i => (x = i → f ((pc : Int) + off).toNat) ∧ swt f x pc r (i + 1)
def swl (f : Nat → Prop) (x : Int) (pc : Nat) (dflt : Int) : List (Int × Int) → Prop
  | [] => f ((pc : Int) + dflt).toNat
  | q :: r => (x = q.1 → f ((pc : Int) + q.2).toNat) ∧ (¬ x = q.1 → swl f x pc dflt r)
/-- where a class's field lies: ftab gives of class and field the kind and the length (0 int, 1 long, 2 boolean, 3 int[], 4 long[], 5 boolean[], 6 byte[], 7 Stand[], 8 Rule[], 9 an object) -/
def fvl (ci j o : Nat) (σ : Mem) : Vl := match (ftab ci j).1 with
  | 0 => vI (σ o j 0)
  | 1 => vL (σ o j 0)
  | 2 => vI (σ o j 0)
  | 9 => vR (subC ci j o) 0
  | _ => vR o (j + 1)
def getF (E : EE) (n : Nat) (st : List Vl) (σ : Mem) (k : List Vl → Prop) : Prop := match lkF n E.2.2.1 with
  | some f => match st with
    | .inr (.inr (.inl (some (o, 0)))) :: r => cls o = f.1 ∧ k (fvl f.1 f.2 o σ :: r)
    | _ => False
  | none => match lkK n E.2.2.2.1 with
    | some (4, _) => match st with
      | .inr (.inr (.inr q)) :: r => ckind q = 20 ∧ k (vI 0 :: r)
      | _ => False
    | some (5, _) => match st with
      | .inr (.inr (.inr q)) :: r => ckind q = 20 ∧ k (vC (q + 1) :: r)
      | _ => False
    | _ => False
def putF (E : EE) (n : Nat) (st : List Vl) (σ : Mem) (k : List Vl → Mem → Prop) : Prop := match lkF n E.2.2.1 with
  | some f => match st with
    | .inl x :: .inr (.inr (.inl (some (o, 0)))) :: r => cls o = f.1 ∧ ((ftab f.1 f.2).1 = 0 ∨ ((ftab f.1 f.2).1 = 2 ∧ (x = 0 ∨ x = 1))) ∧ k r (updM σ o f.2 0 x)
    | .inr (.inl x) :: .inr (.inr (.inl (some (o, 0)))) :: r => cls o = f.1 ∧ (ftab f.1 f.2).1 = 1 ∧ k r (updM σ o f.2 0 x)
    | _ => False
  | none => False
/-- the array in field j of o has this kind and length -/
def arrK (kd n o j : Nat) : Prop := ftab (cls o) j = (kd, n)
def aLd (E : EE) (kd : Nat) (st : List Vl) (σ : Mem) (mk : Int → Vl) (k : List Vl → Prop) : Prop := match st with
  | .inl i :: .inr (.inr (.inl (some (o, j + 1)))) :: r => ∃ n, arrK kd n o j ∧ (0 ≤ wr i ∧ wr i < n) ∧ k (mk (σ o j (wr i)) :: r)
  | .inl i :: .inr (.inr (.inr q)) :: r => ((q = 7 ∧ kd = 3) ∧ (0 ≤ wr i ∧ wr i < (E.2.2.2.2.2.1 : Int) - 1) ∧ k (vI (E.2.2.2.2.2.2 (wr i).toNat) :: r)) ∨ ((ckind q = 3 ∧ kd = 3) ∧ (0 ≤ wr i ∧ wr i < clen q) ∧ k (vI (cval q (wr i)) :: r))
  | _ => False
def aLdR (st : List Vl) (k : List Vl → Prop) : Prop := match st with
  | .inl i :: .inr (.inr (.inl (some (o, j + 1)))) :: r => ∃ kd n, (kd = 7 ∨ kd = 8) ∧ arrK kd n o j ∧ (0 ≤ wr i ∧ wr i < n) ∧ k (vR (eltC j (wr i)) 0 :: r)
  | _ => False
def bLd (st : List Vl) (σ : Mem) (k : List Vl → Prop) : Prop := match st with
  | .inl i :: .inr (.inr (.inl (some (o, j + 1)))) :: r => ∃ kd n, (kd = 5 ∨ kd = 6) ∧ arrK kd n o j ∧ (0 ≤ wr i ∧ wr i < n) ∧ k (vI (σ o j (wr i)) :: r)
  | .inl i :: .inr (.inr (.inr q)) :: r => ckind q = 6 ∧ (0 ≤ wr i ∧ wr i < clen q) ∧ k (vI (cval q (wr i)) :: r)
  | _ => False
def iSt (st : List Vl) (σ : Mem) (k : List Vl → Mem → Prop) : Prop := match st with
  | .inl x :: .inl i :: .inr (.inr (.inl (some (o, j + 1)))) :: r => ∃ n, arrK 3 n o j ∧ (0 ≤ wr i ∧ wr i < n) ∧ k r (updM σ o j (wr i) x)
  | _ => False
def lSt (st : List Vl) (σ : Mem) (k : List Vl → Mem → Prop) : Prop := match st with
  | .inr (.inl x) :: .inl i :: .inr (.inr (.inl (some (o, j + 1)))) :: r => ∃ n, arrK 4 n o j ∧ (0 ≤ wr i ∧ wr i < n) ∧ k r (updM σ o j (wr i) x)
  | _ => False
def bSt (st : List Vl) (σ : Mem) (k : List Vl → Mem → Prop) : Prop := match st with
  | .inl x :: .inl i :: .inr (.inr (.inl (some (o, j + 1)))) :: r => ∃ kd n, ((kd = 5 ∧ (x = 0 ∨ x = 1)) ∨ (kd = 6 ∧ -128 ≤ x ∧ x ≤ 127)) ∧ arrK kd n o j ∧ (0 ≤ wr i ∧ wr i < n) ∧ k r (updM σ o j (wr i) x)
  | _ => False
def aLen (E : EE) (st : List Vl) (k : List Vl → Prop) : Prop := match st with
  | .inr (.inr (.inl (some (o, j + 1)))) :: r => ∃ kd n, (3 ≤ kd ∧ kd ≤ 8) ∧ arrK kd n o j ∧ k (vI n :: r)
  | .inr (.inr (.inr q)) :: r => ((q = 7 ∧ 0 < E.2.2.2.2.2.1) ∧ k (vI ((E.2.2.2.2.2.1 : Int) - 1) :: r)) ∨ ((ckind q = 3 ∨ ckind q = 6) ∧ k (vI (clen q) :: r))
  | _ => False
def recvOK (ci : Nat) (as : List Vl) : Prop := match as with
  | .inr (.inr (.inl (some (o, 0)))) :: _ => cls o = ci
  | .inr (.inr (.inr q)) :: _ => ckind q = 20 ∧ ci = 100
  | _ => False
/-- a call: kind (1: of an object of class number ci; 0: static), ci, number of operands -/
def calV (E : EE) (n : Nat) (st : List Vl) (σ : Mem) (k : List Vl → Mem → Prop) : Prop := match lkC n E.2.2.2.2.1 with
  | some ce => pN ce.1.2.2 [] st (fun as r => ((r.map vcat).sum ≤ 8 ∧ (ce.1.1 = 1 ∧ recvOK ce.1.2.1 as)) ∧ ∃ Q : Pst, ce.2 as σ Q ∧ ∀ v u, Q v u → k (v.toList ++ r) u)
  | none => False
def calS (E : EE) (n : Nat) (st : List Vl) (σ : Mem) (k : List Vl → Mem → Prop) : Prop := match lkC n E.2.2.2.2.1 with
  | some ce => pN ce.1.2.2 [] st (fun as r => ((r.map vcat).sum ≤ 8 ∧ ce.1.1 = 0) ∧ ∃ Q : Pst, ce.2 as σ Q ∧ ∀ v u, Q v u → k (v.toList ++ r) u)
  | none => False
/-- the three of Math that are the machine's own, else a call -/
def calM (E : EE) (n : Nat) (st : List Vl) (σ : Mem) (k : List Vl → Mem → Prop) : Prop := match lkK n E.2.2.2.1 with
  | some (6, _) => pI st (fun y st => pI st (fun x st => (st.map vcat).sum ≤ 8 ∧ k (vI (max (wr x) (wr y)) :: st) σ))
  | some (7, _) => pI st (fun y st => pI st (fun x st => (st.map vcat).sum ≤ 8 ∧ k (vI (min (wr x) (wr y)) :: st) σ))
  | some (8, _) => pL st (fun y st => pL st (fun x st => (st.map vcat).sum ≤ 8 ∧ k (vL (max (wL x) (wL y)) :: st) σ))
  | _ => calS E n st σ k
def ldK (E : EE) (n tag : Nat) (k : Vl → Prop) : Prop := match lkK n E.2.2.2.1 with
  | some e => e.1 = tag ∧ k e.2
  | none => False
def dup2P (st : List Vl) (k : List Vl → Prop) : Prop := match st with
  | .inr (.inl x) :: r => k (vL x :: vL x :: r)
  | a :: b :: r => (vcat a = 1 ∧ vcat b = 1) ∧ k (a :: b :: a :: b :: r)
  | _ => False
def rI (st : List Vl) (k : Int → Prop) : Prop := match st with
  | [.inl x] => k x
  | _ => False
def rL (st : List Vl) (k : Int → Prop) : Prop := match st with
  | [.inr (.inl x)] => k x
  | _ => False
def rA (st : List Vl) (k : Nat → Prop) : Prop := match st with
  | [.inr (.inr (.inr q))] => k q
  | _ => False
def rV (st : List Vl) (k : Prop) : Prop := match st with
  | [] => k
  | _ => False
/-- one row: k goes on behind it, P at a block's begin -/
def ins1 (E : EE) (post : Pst) (P : Nat → List Vl → List Vl → Mem → Prop) (e : Ent) (ls : Lc) (st : List Vl) (σ : Mem) (k : Lc → List Vl → Mem → Prop) : Prop :=
  match e.2.1 with
  | .iconst _ => k ls (vI e.2.2.2.1 :: st) σ
  | .bipush _ => k ls (vI e.2.2.2.1 :: st) σ
  | .sipush _ => k ls (vI e.2.2.2.1 :: st) σ
  | .lconst _ => k ls (vL e.2.2.2.1 :: st) σ
  | .ldc n => ldK E n 0 (fun v => k ls (v :: st) σ) ∨ ldK E n 2 (fun v => k ls (v :: st) σ)
  | .ldc_w n => ldK E n 0 (fun v => k ls (v :: st) σ) ∨ ldK E n 2 (fun v => k ls (v :: st) σ)
  | .ldc2_w n => ldK E n 1 (fun v => k ls (v :: st) σ)
  | .getstatic n => ldK E n 3 (fun v => k ls (v :: st) σ)
  | .iload n => gI ls n (fun x => k ls (vI x :: st) σ)
  | .iload_n n => gI ls n (fun x => k ls (vI x :: st) σ)
  | .lload n => gL ls n (fun x => k ls (vL x :: st) σ)
  | .lload_n n => gL ls n (fun x => k ls (vL x :: st) σ)
  | .aload n => gA ls n (fun v => k ls (v :: st) σ)
  | .aload_n n => gA ls n (fun v => k ls (v :: st) σ)
  | .istore n => pI st (fun x st => n < E.1 ∧ k (lset1 ls n (vI x)) st σ)
  | .istore_n n => pI st (fun x st => (n : Nat) < E.1 ∧ k (lset1 ls n (vI x)) st σ)
  | .lstore n => pL st (fun x st => n + 1 < E.1 ∧ k (lset2 ls n (vL x)) st σ)
  | .lstore_n n => pL st (fun x st => (n : Nat) + 1 < E.1 ∧ k (lset2 ls n (vL x)) st σ)
  | .astore n => pV st (fun v st => (n < E.1 ∧ match v with | .inr (.inr (.inl (some _))) => True | _ => False) ∧ k (lset1 ls n v) st σ)
  | .astore_n n => pV st (fun v st => ((n : Nat) < E.1 ∧ match v with | .inr (.inr (.inl (some _))) => True | _ => False) ∧ k (lset1 ls n v) st σ)
  | .iinc n _ => gI ls n (fun x => n < E.1 ∧ k (lset1 ls n (vI (x + e.2.2.2.1))) st σ)
  | .iadd => pI st (fun y st => pI st (fun x st => k ls (vI (x + y) :: st) σ))
  | .isub => pI st (fun y st => pI st (fun x st => k ls (vI (x - y) :: st) σ))
  | .imul => pI st (fun y st => pI st (fun x st => k ls (vI (x * y) :: st) σ))
  | .idiv => pI st (fun y st => pI st (fun x st => ¬ wr y = 0 ∧ k ls (vI (idv x y) :: st) σ))
  | .irem => pI st (fun y st => pI st (fun x st => ¬ wr y = 0 ∧ k ls (vI (irm x y) :: st) σ))
  | .iand => pI st (fun y st => pI st (fun x st => k ls (vI (bAnd x y) :: st) σ))
  | .ior => pI st (fun y st => pI st (fun x st => k ls (vI (bOr x y) :: st) σ))
  | .ixor => pI st (fun y st => pI st (fun x st => k ls (vI (bXor x y) :: st) σ))
  | .ishl => pI st (fun y st => pI st (fun x st => k ls (vI (bShl x y) :: st) σ))
  | .ishr => pI st (fun y st => pI st (fun x st => k ls (vI (bShr x y) :: st) σ))
  | .iushr => pI st (fun y st => pI st (fun x st => k ls (vI (bUsh x y) :: st) σ))
  | .ladd => pL st (fun y st => pL st (fun x st => k ls (vL (x + y) :: st) σ))
  | .lsub => pL st (fun y st => pL st (fun x st => k ls (vL (x - y) :: st) σ))
  | .lmul => pL st (fun y st => pL st (fun x st => k ls (vL (x * y) :: st) σ))
  | .ldiv => pL st (fun y st => pL st (fun x st => ¬ wL y = 0 ∧ k ls (vL (ldv x y) :: st) σ))
  | .lrem => pL st (fun y st => pL st (fun x st => ¬ wL y = 0 ∧ k ls (vL (lrm x y) :: st) σ))
  | .land => pL st (fun y st => pL st (fun x st => k ls (vL (bAndL x y) :: st) σ))
  | .lor => pL st (fun y st => pL st (fun x st => k ls (vL (bOrL x y) :: st) σ))
  | .lcmp => pL st (fun y st => pL st (fun x st => k ls (vI (lcp x y) :: st) σ))
  | .i2l => pI st (fun x st => k ls (vL (wr x) :: st) σ)
  | .l2i => pL st (fun x st => k ls (vI x :: st) σ)
  | .i2b => pI st (fun x st => k ls (vI (toB x) :: st) σ)
  | .i2c => pI st (fun x st => k ls (vI (toC x) :: st) σ)
  | .dup => pV st (fun v st => vcat v = 1 ∧ k ls (v :: v :: st) σ)
  | .dup2 => dup2P st (fun st => k ls st σ)
  | .pop => pV st (fun v st => vcat v = 1 ∧ k ls st σ)
  | .ifCond c _ => pI st (fun x st => (cmpP c (wr x) 0 → jmp E P e.2.2.2.2 ls st σ) ∧ (¬ cmpP c (wr x) 0 → k ls st σ))
  | .if_icmp c _ => pI st (fun y st => pI st (fun x st => (cmpP c (wr x) (wr y) → jmp E P e.2.2.2.2 ls st σ) ∧ (¬ cmpP c (wr x) (wr y) → k ls st σ)))
  | .goto _ => jmp E P e.2.2.2.2 ls st σ
  | .tableswitch dflt lo hi offs => pI st (fun x st => swt (fun t => jmp E P t ls st σ) (wr x) e.1 offs.toList lo ∧ (wr x < lo ∨ hi < wr x → jmp E P ((e.1 : Int) + dflt).toNat ls st σ))
  | .lookupswitch dflt ps => pI st (fun x st => swl (fun t => jmp E P t ls st σ) (wr x) e.1 dflt ps.toList)
  | .getfield n => getF E n st σ (fun st => k ls st σ)
  | .putfield n => putF E n st σ (fun st σ => k ls st σ)
  | .iaload => aLd E 3 st σ vI (fun st => k ls st σ)
  | .laload => aLd E 4 st σ vL (fun st => k ls st σ)
  | .baload => bLd st σ (fun st => k ls st σ)
  | .aaload => aLdR st (fun st => k ls st σ)
  | .iastore => iSt st σ (fun st σ => k ls st σ)
  | .lastore => lSt st σ (fun st σ => k ls st σ)
  | .bastore => bSt st σ (fun st σ => k ls st σ)
  | .arraylength => aLen E st (fun st => k ls st σ)
  | .invokevirtual n => calV E n st σ (fun st σ => k ls st σ)
  | .invokestatic n => calM E n st σ (fun st σ => k ls st σ)
  | .ireturn => rI st (fun x => post (some (vI x)) σ)
  | .lreturn => rL st (fun x => post (some (vL x)) σ)
  | .areturn => rA st (fun q => post (some (vC q)) σ)
  | .return_ => rV st (post none σ)
  | _ => False
def runL (E : EE) (post : Pst) (P : Nat → List Vl → List Vl → Mem → Prop) : List Ent → Nat → Lc → List Vl → Mem → Prop
  | [], nx, ls, st, σ => jmp E P nx ls st σ
  | e :: r, _, ls, st, σ => ins1 E post P e ls st σ (fun ls st σ => runL E post P r (e.1 + e.2.2.1) ls st σ)
def blk (E : EE) (post : Pst) (P : Nat → List Vl → List Vl → Mem → Prop) (pc : Nat) (vals st : List Vl) (σ : Mem) : Prop := match lkB pc E.2.1 with
  | some b => runL E post P b.2 pc (b.1.zip vals) st σ
  | none => False
/-- what holds of every state from which the blocks come to an end with post: the least such -/
def wps (E : EE) (post : Pst) (pc : Nat) (vals st : List Vl) (σ : Mem) : Prop := ∀ P : Nat → List Vl → List Vl → Mem → Prop, (∀ pc vals st σ, blk E post P pc vals st σ → P pc vals st σ) → P pc vals st σ
/-! ===== what a row must say of itself ===== -/
def immOK (pc : Nat) (ins : Instr) (len : Nat) (a : Int) (t : Nat) : Bool := match ins with
  | .iconst i => len == 1 && decide (Int32.ofInt i = iI a)
  | .bipush i => len == 2 && decide ((Int8.ofInt i).toInt32 = iI a)
  | .sipush i => len == 3 && decide ((Int16.ofInt i).toInt32 = iI a)
  | .lconst n => len == 1 && decide (Int64.ofNat (n : Nat) = lI a)
  | .iinc _ i => len == 3 && decide (Int32.ofInt i = iI a)
  | .ldc _ => len == 2
  | .ldc_w _ => len == 3
  | .ldc2_w _ => len == 3
  | .getstatic _ => len == 3
  | .iload _ => len == 2
  | .lload _ => len == 2
  | .aload _ => len == 2
  | .istore _ => len == 2
  | .lstore _ => len == 2
  | .astore _ => len == 2
  | .getfield _ => len == 3
  | .putfield _ => len == 3
  | .invokevirtual _ => len == 3
  | .invokestatic _ => len == 3
  | .ifCond _ off => len == 3 && decide ((pc : Int) + off = (t : Int))
  | .if_icmp _ off => len == 3 && decide ((pc : Int) + off = (t : Int))
  | .goto off => len == 3 && decide ((pc : Int) + off = (t : Int))
  | .tableswitch d lo hi offs => decide (0 ≤ (pc : Int) + d) && offs.toList.all (fun o => decide (0 ≤ (pc : Int) + o)) && decide ((offs.toList.length : Int) = hi - lo + 1)
  | .lookupswitch d ps => decide (0 ≤ (pc : Int) + d) && ps.toList.all (fun q => decide (0 ≤ (pc : Int) + q.2)) && (ps.toList.zip (ps.toList.drop 1)).all (fun (a, next) => a.1 < next.1)
  | _ => len == 1
def entOK (b : ByteArray) (e : Ent) : Bool := decide (decode b e.1 = .ok (e.2.1, e.2.2.1)) && immOK e.1 e.2.1 e.2.2.1 e.2.2.2.1 e.2.2.2.2
/-- rows one behind the other -/
def rowsOK (b : ByteArray) : Nat → List Ent → Bool
  | _, [] => true
  | nx, e :: r => (e.1 == nx) && (entOK b e && rowsOK b (e.1 + e.2.2.1) r)
def blksOK (b : ByteArray) (E : EE) : Bool := E.2.1.all (fun q => rowsOK b q.1 q.2.2)
/-! ===== monotony ===== -/
theorem pI_mono {st : List Vl} {k k' : Int → List Vl → Prop} (h : ∀ x r, k x r → k' x r) : pI st k → pI st k' := by
  unfold pI
  split
  · exact h _ _
  · exact id
theorem pL_mono {st : List Vl} {k k' : Int → List Vl → Prop} (h : ∀ x r, k x r → k' x r) : pL st k → pL st k' := by
  unfold pL
  split
  · exact h _ _
  · exact id
theorem pV_mono {st : List Vl} {k k' : Vl → List Vl → Prop} (h : ∀ x r, k x r → k' x r) : pV st k → pV st k' := by
  unfold pV
  split
  · exact h _ _
  · exact id
theorem pN_mono {k k' : List Vl → List Vl → Prop} (h : ∀ x r, k x r → k' x r) : ∀ (n : Nat) (acc st : List Vl), pN n acc st k → pN n acc st k'
  | 0, acc, st => h acc st
  | n + 1, acc, v :: st => pN_mono h n (v :: acc) st
  | n + 1, _, [] => id
theorem gI_mono {ls : Lc} {n : Nat} {k k' : Int → Prop} (h : ∀ x, k x → k' x) : gI ls n k → gI ls n k' := by
  unfold gI
  split
  · exact h _
  · exact id
theorem gL_mono {ls : Lc} {n : Nat} {k k' : Int → Prop} (h : ∀ x, k x → k' x) : gL ls n k → gL ls n k' := by
  unfold gL
  split
  · exact h _
  · exact id
theorem gA_mono {ls : Lc} {n : Nat} {k k' : Vl → Prop} (h : ∀ x, k x → k' x) : gA ls n k → gA ls n k' := by
  unfold gA
  split
  · exact h _
  · exact And.imp id (h _)
  · exact id
theorem coll_mono {k k' : List Vl → Prop} (h : ∀ x, k x → k' x) (env : Lc) : ∀ (l : List Nat) (acc : List Vl), coll l env acc k → coll l env acc k'
  | [], acc => h _
  | n :: r, acc => by
    unfold coll
    split
    · exact coll_mono h env r _
    · exact id
theorem jmp_mono {E : EE} {P P' : Nat → List Vl → List Vl → Mem → Prop} (hP : ∀ pc v st σ, P pc v st σ → P' pc v st σ) {t : Nat} {env : Lc} {st : List Vl} {σ : Mem} : jmp E P t env st σ → jmp E P' t env st σ := by
  unfold jmp
  split
  · exact coll_mono (fun _ => hP _ _ _ _) _ _ _
  · exact id
theorem swt_mono {f f' : Nat → Prop} (h : ∀ t, f t → f' t) {x : Int} {pc : Nat} : ∀ (l : List Int) (i : Int), swt f x pc l i → swt f' x pc l i
  | [], _ => id
  | _ :: r, i => And.imp (fun q e => h _ (q e)) (swt_mono h r (i + 1))
theorem swl_mono {f f' : Nat → Prop} (h : ∀ t, f t → f' t) {x : Int} {pc : Nat} {d : Int} : ∀ (l : List (Int × Int)), swl f x pc d l → swl f' x pc d l
  | [] => h _
  | _ :: r => And.imp (fun q e => h _ (q e)) (fun q e => swl_mono h r (q e))
theorem getF_mono {E : EE} {n : Nat} {st : List Vl} {σ : Mem} {k k' : List Vl → Prop} (h : ∀ r, k r → k' r) : getF E n st σ k → getF E n st σ k' := by
  unfold getF
  repeat' split
  all_goals first | exact id | exact And.imp id (h _)
theorem putF_mono {E : EE} {n : Nat} {st : List Vl} {σ : Mem} {k k' : List Vl → Mem → Prop} (h : ∀ r u, k r u → k' r u) : putF E n st σ k → putF E n st σ k' := by
  unfold putF
  repeat' split
  all_goals first | exact id | exact And.imp id (And.imp id (h _ _))
theorem aLd_mono {E : EE} {kd : Nat} {st : List Vl} {σ : Mem} {mk : Int → Vl} {k k' : List Vl → Prop} (h : ∀ r, k r → k' r) : aLd E kd st σ mk k → aLd E kd st σ mk k' := by
  unfold aLd
  split
  · exact fun ⟨n, a, b, c⟩ => ⟨n, a, b, h _ c⟩
  · exact Or.imp (And.imp id (And.imp id (h _))) (And.imp id (And.imp id (h _)))
  · exact id
theorem aLdR_mono {st : List Vl} {k k' : List Vl → Prop} (h : ∀ r, k r → k' r) : aLdR st k → aLdR st k' := by
  unfold aLdR
  split
  · exact fun ⟨kd, n, q, a, b, c⟩ => ⟨kd, n, q, a, b, h _ c⟩
  · exact id
theorem bLd_mono {st : List Vl} {σ : Mem} {k k' : List Vl → Prop} (h : ∀ r, k r → k' r) : bLd st σ k → bLd st σ k' := by
  unfold bLd
  split
  · exact fun ⟨kd, n, q, a, b, c⟩ => ⟨kd, n, q, a, b, h _ c⟩
  · exact And.imp id (And.imp id (h _))
  · exact id
theorem iSt_mono {st : List Vl} {σ : Mem} {k k' : List Vl → Mem → Prop} (h : ∀ r u, k r u → k' r u) : iSt st σ k → iSt st σ k' := by
  unfold iSt
  split
  · exact fun ⟨n, a, b, c⟩ => ⟨n, a, b, h _ _ c⟩
  · exact id
theorem lSt_mono {st : List Vl} {σ : Mem} {k k' : List Vl → Mem → Prop} (h : ∀ r u, k r u → k' r u) : lSt st σ k → lSt st σ k' := by
  unfold lSt
  split
  · exact fun ⟨n, a, b, c⟩ => ⟨n, a, b, h _ _ c⟩
  · exact id
theorem bSt_mono {st : List Vl} {σ : Mem} {k k' : List Vl → Mem → Prop} (h : ∀ r u, k r u → k' r u) : bSt st σ k → bSt st σ k' := by
  unfold bSt
  split
  · exact fun ⟨kd, n, q, a, b, c⟩ => ⟨kd, n, q, a, b, h _ _ c⟩
  · exact id
theorem aLen_mono {E : EE} {st : List Vl} {k k' : List Vl → Prop} (h : ∀ r, k r → k' r) : aLen E st k → aLen E st k' := by
  unfold aLen
  split
  · exact fun ⟨kd, n, q, a, c⟩ => ⟨kd, n, q, a, h _ c⟩
  · exact Or.imp (And.imp id (h _)) (And.imp id (h _))
  · exact id
theorem calV_mono {E : EE} {n : Nat} {st : List Vl} {σ : Mem} {k k' : List Vl → Mem → Prop} (h : ∀ r u, k r u → k' r u) : calV E n st σ k → calV E n st σ k' := by
  unfold calV
  split
  · exact pN_mono (fun as r ⟨a, Q, b, c⟩ => ⟨a, Q, b, fun v u q => h _ _ (c v u q)⟩) _ _ _
  · exact id
theorem calS_mono {E : EE} {n : Nat} {st : List Vl} {σ : Mem} {k k' : List Vl → Mem → Prop} (h : ∀ r u, k r u → k' r u) : calS E n st σ k → calS E n st σ k' := by
  unfold calS
  split
  · exact pN_mono (fun as r ⟨a, Q, b, c⟩ => ⟨a, Q, b, fun v u q => h _ _ (c v u q)⟩) _ _ _
  · exact id
theorem calM_mono {E : EE} {n : Nat} {st : List Vl} {σ : Mem} {k k' : List Vl → Mem → Prop} (h : ∀ r u, k r u → k' r u) : calM E n st σ k → calM E n st σ k' := by
  unfold calM
  split
  · exact pI_mono fun _ _ => pI_mono fun _ _ => And.imp id (h _ _)
  · exact pI_mono fun _ _ => pI_mono fun _ _ => And.imp id (h _ _)
  · exact pL_mono fun _ _ => pL_mono fun _ _ => And.imp id (h _ _)
  · exact calS_mono h
theorem ldK_mono {E : EE} {n tag : Nat} {k k' : Vl → Prop} (h : ∀ v, k v → k' v) : ldK E n tag k → ldK E n tag k' := by
  unfold ldK
  split
  · exact And.imp id (h _)
  · exact id
theorem dup2P_mono {st : List Vl} {k k' : List Vl → Prop} (h : ∀ r, k r → k' r) : dup2P st k → dup2P st k' := by
  unfold dup2P
  split
  · exact h _
  · exact And.imp id (h _)
  · exact id
theorem rI_mono {st : List Vl} {k k' : Int → Prop} (h : ∀ x, k x → k' x) : rI st k → rI st k' := by
  unfold rI
  split
  · exact h _
  · exact id
theorem rL_mono {st : List Vl} {k k' : Int → Prop} (h : ∀ x, k x → k' x) : rL st k → rL st k' := by
  unfold rL
  split
  · exact h _
  · exact id
theorem rA_mono {st : List Vl} {k k' : Nat → Prop} (h : ∀ x, k x → k' x) : rA st k → rA st k' := by
  unfold rA
  split
  · exact h _
  · exact id
theorem rV_mono {st : List Vl} {k k' : Prop} (h : k → k') : rV st k → rV st k' := by
  unfold rV
  split
  · exact h
  · exact id
set_option maxHeartbeats 4000000 in
theorem ins1_mono {E : EE} {post post' : Pst} {P P' : Nat → List Vl → List Vl → Mem → Prop} (hp : ∀ v σ, post v σ → post' v σ) (hP : ∀ pc v st σ, P pc v st σ → P' pc v st σ) {e : Ent} {ls : Lc} {st : List Vl} {σ : Mem} {k k' : Lc → List Vl → Mem → Prop} (hk : ∀ ls st σ, k ls st σ → k' ls st σ) : ins1 E post P e ls st σ k → ins1 E post' P' e ls st σ k' := by
  obtain ⟨pc, ins, len, a, t⟩ := e
  cases ins
  case iconst => exact hk _ _ _
  case bipush => exact hk _ _ _
  case sipush => exact hk _ _ _
  case lconst => exact hk _ _ _
  case ldc => exact Or.imp (ldK_mono fun _ => hk _ _ _) (ldK_mono fun _ => hk _ _ _)
  case ldc_w => exact Or.imp (ldK_mono fun _ => hk _ _ _) (ldK_mono fun _ => hk _ _ _)
  case ldc2_w => exact ldK_mono (k := fun v => k ls (v :: st) σ) (k' := fun v => k' ls (v :: st) σ) (fun _ => hk _ _ _)
  case getstatic => exact ldK_mono (k := fun v => k ls (v :: st) σ) (k' := fun v => k' ls (v :: st) σ) (fun _ => hk _ _ _)
  case iload => exact gI_mono fun _ => hk _ _ _
  case iload_n => exact gI_mono fun _ => hk _ _ _
  case lload => exact gL_mono fun _ => hk _ _ _
  case lload_n => exact gL_mono fun _ => hk _ _ _
  case aload => exact gA_mono (k := fun v => k ls (v :: st) σ) (k' := fun v => k' ls (v :: st) σ) (fun _ => hk _ _ _)
  case aload_n => exact gA_mono (k := fun v => k ls (v :: st) σ) (k' := fun v => k' ls (v :: st) σ) (fun _ => hk _ _ _)
  case istore => exact pI_mono fun _ _ => And.imp id (hk _ _ _)
  case istore_n => exact pI_mono fun _ _ => And.imp id (hk _ _ _)
  case lstore => exact pL_mono fun _ _ => And.imp id (hk _ _ _)
  case lstore_n => exact pL_mono fun _ _ => And.imp id (hk _ _ _)
  case astore => exact pV_mono fun _ _ => And.imp id (hk _ _ _)
  case astore_n => exact pV_mono fun _ _ => And.imp id (hk _ _ _)
  case iinc => exact gI_mono fun _ => And.imp id (hk _ _ _)
  case iadd => exact pI_mono fun _ _ => pI_mono fun _ _ => hk _ _ _
  case isub => exact pI_mono fun _ _ => pI_mono fun _ _ => hk _ _ _
  case imul => exact pI_mono fun _ _ => pI_mono fun _ _ => hk _ _ _
  case idiv => exact pI_mono fun _ _ => pI_mono fun _ _ => And.imp id (hk _ _ _)
  case irem => exact pI_mono fun _ _ => pI_mono fun _ _ => And.imp id (hk _ _ _)
  case iand => exact pI_mono fun _ _ => pI_mono fun _ _ => hk _ _ _
  case ior => exact pI_mono fun _ _ => pI_mono fun _ _ => hk _ _ _
  case ixor => exact pI_mono fun _ _ => pI_mono fun _ _ => hk _ _ _
  case ishl => exact pI_mono fun _ _ => pI_mono fun _ _ => hk _ _ _
  case ishr => exact pI_mono fun _ _ => pI_mono fun _ _ => hk _ _ _
  case iushr => exact pI_mono fun _ _ => pI_mono fun _ _ => hk _ _ _
  case ladd => exact pL_mono fun _ _ => pL_mono fun _ _ => hk _ _ _
  case lsub => exact pL_mono fun _ _ => pL_mono fun _ _ => hk _ _ _
  case lmul => exact pL_mono fun _ _ => pL_mono fun _ _ => hk _ _ _
  case ldiv => exact pL_mono fun _ _ => pL_mono fun _ _ => And.imp id (hk _ _ _)
  case lrem => exact pL_mono fun _ _ => pL_mono fun _ _ => And.imp id (hk _ _ _)
  case land => exact pL_mono fun _ _ => pL_mono fun _ _ => hk _ _ _
  case lor => exact pL_mono fun _ _ => pL_mono fun _ _ => hk _ _ _
  case lcmp => exact pL_mono fun _ _ => pL_mono fun _ _ => hk _ _ _
  case i2l => exact pI_mono fun _ _ => hk _ _ _
  case l2i => exact pL_mono fun _ _ => hk _ _ _
  case i2b => exact pI_mono fun _ _ => hk _ _ _
  case i2c => exact pI_mono fun _ _ => hk _ _ _
  case dup => exact pV_mono fun _ _ => And.imp id (hk _ _ _)
  case dup2 => exact dup2P_mono (k := fun st => k ls st σ) (k' := fun st => k' ls st σ) (fun _ => hk _ _ _)
  case pop => exact pV_mono fun _ _ => And.imp id (hk _ _ _)
  case ifCond => exact pI_mono fun _ _ => And.imp (fun q h => jmp_mono hP (q h)) (fun q h => hk _ _ _ (q h))
  case if_icmp => exact pI_mono fun _ _ => pI_mono fun _ _ => And.imp (fun q h => jmp_mono hP (q h)) (fun q h => hk _ _ _ (q h))
  case goto => exact jmp_mono hP
  case tableswitch => exact pI_mono fun _ _ => And.imp (swt_mono (fun _ => jmp_mono hP) _ _) (fun q h => jmp_mono hP (q h))
  case lookupswitch => exact pI_mono fun _ _ => swl_mono (fun _ => jmp_mono hP) _
  case getfield => exact getF_mono (k := fun st => k ls st σ) (k' := fun st => k' ls st σ) (fun _ => hk _ _ _)
  case putfield => exact putF_mono fun _ _ => hk _ _ _
  case iaload => exact aLd_mono (k := fun st => k ls st σ) (k' := fun st => k' ls st σ) (fun _ => hk _ _ _)
  case laload => exact aLd_mono (k := fun st => k ls st σ) (k' := fun st => k' ls st σ) (fun _ => hk _ _ _)
  case baload => exact bLd_mono (k := fun st => k ls st σ) (k' := fun st => k' ls st σ) (fun _ => hk _ _ _)
  case aaload => exact aLdR_mono (k := fun st => k ls st σ) (k' := fun st => k' ls st σ) (fun _ => hk _ _ _)
  case iastore => exact iSt_mono fun _ _ => hk _ _ _
  case lastore => exact lSt_mono fun _ _ => hk _ _ _
  case bastore => exact bSt_mono fun _ _ => hk _ _ _
  case arraylength => exact aLen_mono (k := fun st => k ls st σ) (k' := fun st => k' ls st σ) (fun _ => hk _ _ _)
  case invokevirtual => exact calV_mono fun _ _ => hk _ _ _
  case invokestatic => exact calM_mono fun _ _ => hk _ _ _
  case ireturn => exact rI_mono (k := fun x => post (some (vI x)) σ) (k' := fun x => post' (some (vI x)) σ) (fun _ => hp _ _)
  case lreturn => exact rL_mono (k := fun x => post (some (vL x)) σ) (k' := fun x => post' (some (vL x)) σ) (fun _ => hp _ _)
  case areturn => exact rA_mono (k := fun x => post (some (vC x)) σ) (k' := fun x => post' (some (vC x)) σ) (fun _ => hp _ _)
  case return_ => exact rV_mono (k := post none σ) (k' := post' none σ) (hp _ _)
  all_goals exact id
theorem runL_mono {E : EE} {post post' : Pst} {P P' : Nat → List Vl → List Vl → Mem → Prop} (hp : ∀ v σ, post v σ → post' v σ) (hP : ∀ pc v st σ, P pc v st σ → P' pc v st σ) : ∀ (l : List Ent) (nx : Nat) (ls : Lc) (st : List Vl) (σ : Mem), runL E post P l nx ls st σ → runL E post' P' l nx ls st σ
  | [], _, _, _, _ => jmp_mono hP
  | _ :: r, _, _, _, _ => ins1_mono hp hP (fun _ _ _ => runL_mono hp hP r _ _ _ _)
theorem blk_mono {E : EE} {post post' : Pst} {P P' : Nat → List Vl → List Vl → Mem → Prop} (hp : ∀ v σ, post v σ → post' v σ) (hP : ∀ pc v st σ, P pc v st σ → P' pc v st σ) {pc : Nat} {vals st : List Vl} {σ : Mem} : blk E post P pc vals st σ → blk E post' P' pc vals st σ := by
  unfold blk
  split
  · exact runL_mono hp hP _ _ _ _ _
  · exact id
theorem wps.intro {E : EE} {post : Pst} {pc : Nat} {vals st : List Vl} {σ : Mem} (h : blk E post (wps E post) pc vals st σ) : wps E post pc vals st σ := fun P hP => hP _ _ _ _ (blk_mono (fun _ _ => id) (fun _ _ _ _ q => q P hP) h)
theorem wps.mono {E : EE} {post post' : Pst} (hp : ∀ v σ, post v σ → post' v σ) {pc : Nat} {vals st : List Vl} {σ : Mem} (h : wps E post pc vals st σ) : wps E post' pc vals st σ := fun P hP => h P (fun _ _ _ _ q => hP _ _ _ _ (blk_mono hp (fun _ _ _ _ => id) q))
end
section
/-! ===== the world as a list of cells, by the store ===== -/
def isArr (k : Nat) : Bool := 3 ≤ k && k ≤ 8
def nF (ci : Nat) : Nat := (ftL.getD ci []).length
def domL : List (Nat × Nat) := (List.range clsL.length).flatMap (fun o => (o, 0) :: ((List.range (nF (cls o))).filter (fun j => isArr (ftab (cls o) j).1)).map (fun j => (o, j + 1)))
def vv (ad : Nat × Nat → Nat) (kd : Nat → Value) : Vl → Value
  | .inl x => .int (iI x)
  | .inr (.inl x) => .long (lI x)
  | .inr (.inr (.inl none)) => .null
  | .inr (.inr (.inl (some d))) => .ref (ad d)
  | .inr (.inr (.inr k)) => kd k
def fieldV (ad : Nat × Nat → Nat) (σ : Mem) (o j : Nat) : Value := match (ftab (cls o) j).1 with
  | 0 => .int (iI (σ o j 0))
  | 1 => .long (lI (σ o j 0))
  | 2 => .int (iI (σ o j 0))
  | 9 => .ref (ad (subC (cls o) j o, 0))
  | _ => .ref (ad (o, j + 1))
def arrE (ad : Nat × Nat → Nat) (cA : Nat → ClassId) (σ : Mem) (o j : Nat) (kn : Nat × Nat) : va_E := match kn.1 with
  | 3 => .inl (cA 0, kn.2, .inl (fun i => iI (σ o j (i : Int))))
  | 4 => .inl (cA 1, kn.2, .inr (.inl (fun i => lI (σ o j (i : Int)))))
  | 5 => .inl (cA 2, kn.2, .inl (fun i => iI (σ o j (i : Int))))
  | 6 => .inl (cA 3, kn.2, .inl (fun i => iI (σ o j (i : Int))))
  | 7 => .inl (cA 4, kn.2, .inr (.inr (.inr (.inr (fun i => some (ad (eltC j (i : Int), 0)))))))
  | _ => .inl (cA 5, kn.2, .inr (.inr (.inr (.inr (fun i => some (ad (eltC j (i : Int), 0)))))))
def kcell (ad : Nat × Nat → Nat) (cA : Nat → ClassId) (σ : Mem) (d : Nat × Nat) : va_E := match d.2 with
  | 0 => .inr (cls d.1, (List.range (nF (cls d.1))).map (fieldV ad σ d.1))
  | j + 1 => arrE ad cA σ d.1 j (ftab (cls d.1) j)
def wlst (ad : Nat × Nat → Nat) (cA : Nat → ClassId) (σ : Mem) : va_W := domL.map (fun d => (ad d, kcell ad cA σ d))
def tysG (cA : Nat → ClassId) : List (ClassId × FieldType) := [(cA 0, .int), (cA 1, .long), (cA 2, .boolean), (cA 3, .byte), (cA 4, .object "ClothEnds$Stand"), (cA 5, .object "ClothEnds$Rule")]
theorem dom_nodup : domL.Nodup := by decide +kernel
theorem dom_obj : ∀ o, o < clsL.length → (o, 0) ∈ domL := fun o h => List.mem_flatMap.mpr ⟨o, List.mem_range.mpr h, List.mem_cons_self⟩
theorem cls_lt {o c : Nat} (h : cls o = c) (hc : c < 99) : o < clsL.length := by
  rcases Nat.lt_or_ge o clsL.length with q | q
  · exact q
  · exfalso
    have : cls o = 99 := by unfold cls; rw [List.getD_eq_getElem?_getD, List.getElem?_eq_none q]; rfl
    omega
theorem ftab_lt {ci j : Nat} (h : (ftab ci j).1 < 99) : j < nF ci := by
  rcases Nat.lt_or_ge j (nF ci) with q | q
  · exact q
  · exfalso
    have : ftab ci j = (99, 0) := by
      unfold ftab
      rw [List.getD_eq_getElem?_getD, List.getElem?_eq_none q]
      rfl
    rw [this] at h
    exact absurd h (by decide)
theorem nF_99 : nF 99 = 0 := rfl
theorem dom_arr {o j : Nat} (h : isArr (ftab (cls o) j).1 = true) : (o, j + 1) ∈ domL := by
  have h2 : (ftab (cls o) j).1 < 99 := by
    unfold isArr at h
    simp only [Bool.and_eq_true, decide_eq_true_eq] at h
    omega
  have hj := ftab_lt h2
  have ho : o < clsL.length := by
    rcases Nat.lt_or_ge o clsL.length with q | q
    · exact q
    · exfalso
      have : cls o = 99 := by unfold cls; rw [List.getD_eq_getElem?_getD, List.getElem?_eq_none q]; rfl
      rw [this, nF_99] at hj
      omega
  exact List.mem_flatMap.mpr ⟨o, List.mem_range.mpr ho, List.mem_cons_of_mem _ (List.mem_map.mpr ⟨j, List.mem_filter.mpr ⟨List.mem_range.mpr hj, h⟩, rfl⟩)⟩
theorem wl_at (ad : Nat × Nat → Nat) (cA : Nat → ClassId) (σ : Mem) {d : Nat × Nat} (h : d ∈ domL) : ∃ q0 : Nat, domL[q0]? = some d ∧ (wlst ad cA σ)[q0]? = some (ad d, kcell ad cA σ d) := by
  obtain ⟨i, hi⟩ := List.getElem?_of_mem h
  exact ⟨i, hi, by rw [wlst, List.getElem?_map, hi]; rfl⟩
theorem wl_set (ad : Nat × Nat → Nat) (cA : Nat → ClassId) (σ τ : Mem) {d : Nat × Nat} {q0 : Nat} (h : domL[q0]? = some d) (hd : ∀ d', d' ≠ d → kcell ad cA τ d' = kcell ad cA σ d') : (wlst ad cA σ).set q0 (ad d, kcell ad cA τ d) = wlst ad cA τ := by
  refine List.ext_getElem? fun i => ?_
  rw [List.getElem?_set]
  have hq : q0 < domL.length := (List.getElem?_eq_some_iff.mp h).1
  by_cases e : q0 = i
  · subst e
    rw [if_pos rfl, if_pos (by rw [wlst, List.length_map]; exact hq), wlst, List.getElem?_map, h]
    rfl
  · rw [if_neg e, wlst, wlst, List.getElem?_map, List.getElem?_map]
    cases hi : domL[i]? with
    | none => rfl
    | some d' =>
      have hne : d' ≠ d := by
        intro q
        subst q
        exact e ((List.getElem?_inj hq dom_nodup).mp (h.trans hi.symm))
      show some (ad d', kcell ad cA σ d') = some (ad d', kcell ad cA τ d')
      rw [hd d' hne]
theorem upd_other {σ : Mem} {o j o' j' : Nat} {i v k : Int} (h : o' ≠ o ∨ j' ≠ j) : updM σ o j i v o' j' k = σ o' j' k := by
  unfold updM
  rw [if_neg]
  rintro ⟨a, b, -⟩
  rcases h with h | h
  · exact h a
  · exact h b
theorem upd_same {σ : Mem} {o j : Nat} {i v : Int} : updM σ o j i v o j i = v := if_pos ⟨rfl, rfl, rfl⟩
theorem arrE_upd (ad : Nat × Nat → Nat) (cA : Nat → ClassId) (σ : Mem) {o j o' j' : Nat} {i v : Int} {kn : Nat × Nat} (h : o' ≠ o ∨ j' ≠ j) : arrE ad cA (updM σ o j i v) o' j' kn = arrE ad cA σ o' j' kn := by
  unfold arrE
  split <;> simp only [upd_other h]
theorem fieldV_upd (ad : Nat × Nat → Nat) (σ : Mem) {o j o' j' : Nat} {i v : Int} (h : o' ≠ o ∨ j' ≠ j) : fieldV ad (updM σ o j i v) o' j' = fieldV ad σ o' j' := by
  unfold fieldV
  split <;> simp only [upd_other h]
theorem fieldV_arr (ad : Nat × Nat → Nat) (σ : Mem) {o j : Nat} (hk : isArr (ftab (cls o) j).1 = true) : fieldV ad σ o j = .ref (ad (o, j + 1)) := by
  unfold fieldV
  unfold isArr at hk
  simp only [Bool.and_eq_true, decide_eq_true_eq] at hk
  split <;> first | rfl | (exfalso; omega)
theorem kcell_arr (ad : Nat × Nat → Nat) (cA : Nat → ClassId) (σ : Mem) {o j : Nat} {i v : Int} (hk : isArr (ftab (cls o) j).1 = true) : ∀ d', d' ≠ (o, j + 1) → kcell ad cA (updM σ o j i v) d' = kcell ad cA σ d' := by
  rintro ⟨o', j'⟩ hne
  cases j' with
  | zero =>
    show (Sum.inr (cls o', (List.range (nF (cls o'))).map (fieldV ad (updM σ o j i v) o')) : va_E) = Sum.inr (cls o', (List.range (nF (cls o'))).map (fieldV ad σ o'))
    congr 2
    refine List.map_congr_left fun q _ => ?_
    by_cases h : o' = o ∧ q = j
    · obtain ⟨rfl, rfl⟩ := h
      rw [fieldV_arr ad _ hk, fieldV_arr ad _ hk]
    · exact fieldV_upd ad σ (by
        by_cases h1 : o' = o
        · exact Or.inr fun h2 => h ⟨h1, h2⟩
        · exact Or.inl h1)
  | succ j' =>
    exact arrE_upd ad cA σ (by
      by_cases h : o' = o
      · refine Or.inr fun q => hne ?_
        rw [h, q]
      · exact Or.inl h)
theorem kcell_obj (ad : Nat × Nat → Nat) (cA : Nat → ClassId) (σ : Mem) {o j : Nat} {i v : Int} (hk : (ftab (cls o) j).1 < 3) : ∀ d', d' ≠ (o, 0) → kcell ad cA (updM σ o j i v) d' = kcell ad cA σ d' := by
  rintro ⟨o', j'⟩ hne
  cases j' with
  | zero =>
    have ho : o' ≠ o := fun q => hne (by rw [q])
    show (Sum.inr (cls o', (List.range (nF (cls o'))).map (fieldV ad (updM σ o j i v) o')) : va_E) = Sum.inr (cls o', (List.range (nF (cls o'))).map (fieldV ad σ o'))
    congr 2
    exact List.map_congr_left fun q _ => fieldV_upd ad σ (Or.inl ho)
  | succ j' =>
    show arrE ad cA (updM σ o j i v) o' j' _ = arrE ad cA σ o' j' _
    by_cases h : o' = o ∧ j' = j
    · obtain ⟨rfl, rfl⟩ := h
      have h3 : (ftab (cls o') j').1 = 0 ∨ (ftab (cls o') j').1 = 1 ∨ (ftab (cls o') j').1 = 2 := by omega
      rcases h3 with h | h | h <;> simp only [arrE, h]
    · exact arrE_upd ad cA σ (by
        by_cases h1 : o' = o
        · exact Or.inr fun h2 => h ⟨h1, h2⟩
        · exact Or.inl h1)
theorem fields_set (ad : Nat × Nat → Nat) (σ : Mem) {o j : Nat} {v : Int} (hj : j < nF (cls o)) : (List.range (nF (cls o))).map (fieldV ad (updM σ o j 0 v) o) = ((List.range (nF (cls o))).map (fieldV ad σ o)).set j (fieldV ad (updM σ o j 0 v) o j) := by
  refine List.ext_getElem? fun q => ?_
  rw [List.getElem?_set, List.getElem?_map, List.getElem?_map]
  by_cases e : j = q
  · subst e
    rw [if_pos rfl, if_pos (by rw [List.length_map, List.length_range]; exact hj), List.getElem?_range hj]
    rfl
  · rw [if_neg e]
    cases h : (List.range (nF (cls o)))[q]? with
    | none => rfl
    | some q' =>
      have : q' = q := by
        obtain ⟨h1, h2⟩ := List.getElem?_eq_some_iff.mp h
        rw [List.getElem_range] at h2
        exact h2.symm
      subst this
      show some (fieldV ad (updM σ o j 0 v) o q') = some (fieldV ad σ o q')
      rw [fieldV_upd ad σ (Or.inr fun z => e z.symm)]
/-- what a field holds, as a value -/
theorem vv_fvl (ad : Nat × Nat → Nat) (kd : Nat → Value) (σ : Mem) {o ci j : Nat} (h : cls o = ci) : vv ad kd (fvl ci j o σ) = fieldV ad σ o j := by
  subst h
  unfold fvl fieldV
  generalize (ftab (cls o) j).1 = k
  rcases k with _ | _ | _ | _ | _ | _ | _ | _ | _ | _ | k <;> rfl
/-! ===== numbers ===== -/
theorem iI_toInt (x : Int32) : iI x.toInt = x := Int32.ofInt_toInt x
theorem lI_toInt (x : Int64) : lI x.toInt = x := Int64.ofInt_toInt x
theorem iI_add (x y : Int) : iI (x + y) = iI x + iI y := Int32.ofInt_add x y
theorem iI_sub (x y : Int) : iI (x - y) = iI x - iI y := Int32.ofInt_sub x y
theorem iI_mul (x y : Int) : iI (x * y) = iI x * iI y := Int32.ofInt_mul x y
theorem lI_add (x y : Int) : lI (x + y) = lI x + lI y := Int64.ofInt_add x y
theorem lI_sub (x y : Int) : lI (x - y) = lI x - lI y := Int64.ofInt_sub x y
theorem lI_mul (x y : Int) : lI (x * y) = lI x * lI y := Int64.ofInt_mul x y
theorem wr_def (x : Int) : (iI x).toInt = wr x := by
  show (Int32.ofInt x).toInt = (x + 2147483648) % 4294967296 - 2147483648
  rw [Int32.toInt_ofInt, Int.bmod_def, show (Int32.size : Nat) = 4294967296 from rfl]
  split <;> omega
theorem wL_def (x : Int) : (lI x).toInt = wL x := by
  show (Int64.ofInt x).toInt = (x + 9223372036854775808) % 18446744073709551616 - 9223372036854775808
  rw [Int64.toInt_ofInt, Int.bmod_def, show (Int64.size : Nat) = 18446744073709551616 from rfl]
  split <;> omega
theorem iI_wr (x : Int) : iI (wr x) = iI x := by rw [← wr_def]; exact iI_toInt _
theorem lI_wL (x : Int) : lI (wL x) = lI x := by rw [← wL_def]; exact lI_toInt _
theorem lI_wr (x : Int) : lI (wr x) = (iI x).toInt64 := by
  refine Int64.toInt.inj ?_
  rw [← wr_def]
  show (Int64.ofInt (iI x).toInt).toInt = _
  rw [Int64.toInt_ofInt, Int32.toInt_toInt64]
  have h1 := Int32.le_toInt (iI x)
  have h2 := Int32.toInt_lt (iI x)
  exact Int.bmod_eq_of_le (by simp at h1 ⊢; omega) (by simp at h2 ⊢; omega)
theorem iI_l (x : Int) : (lI x).toInt32 = iI x := Int64.toInt32_ofInt
theorem wr_lt (x y : Int) : iI x < iI y ↔ wr x < wr y := by rw [← wr_def, ← wr_def]; exact Int32.lt_iff_toInt_lt
theorem wr_le (x y : Int) : iI x ≤ iI y ↔ wr x ≤ wr y := by rw [← wr_def, ← wr_def]; exact Int32.le_iff_toInt_le
theorem wr_eq (x y : Int) : iI x = iI y ↔ wr x = wr y := by rw [← wr_def, ← wr_def]; exact Int32.toInt_inj.symm
theorem wr_0 : wr 0 = 0 := by decide
theorem wr_lt0 (x : Int) : iI x < 0 ↔ wr x < 0 := by rw [show (0 : Int32) = iI 0 from rfl, wr_lt, wr_0]
theorem wr_ge0 (x : Int) : 0 ≤ iI x ↔ 0 ≤ wr x := by rw [show (0 : Int32) = iI 0 from rfl, wr_le, wr_0]
theorem wr_gt0 (x : Int) : 0 < iI x ↔ 0 < wr x := by rw [show (0 : Int32) = iI 0 from rfl, wr_lt, wr_0]
theorem wr_le0 (x : Int) : iI x ≤ 0 ↔ wr x ≤ 0 := by rw [show (0 : Int32) = iI 0 from rfl, wr_le, wr_0]
theorem wr_eq0 (x : Int) : iI x = 0 ↔ wr x = 0 := by rw [show (0 : Int32) = iI 0 from rfl, wr_eq, wr_0]
theorem wL_eq0 (x : Int) : lI x = 0 ↔ wL x = 0 := by
  rw [show (0 : Int64) = lI 0 from rfl, ← wL_def, ← Int64.toInt_inj]
  rfl
theorem ix_in {x : Int} {n : Nat} (h : 0 ≤ wr x ∧ wr x < n) : vp_in (iI x) n := vp_in_iff.mpr (by rw [wr_def]; exact h)
theorem ix_at {x : Int} (h : 0 ≤ wr x) : (((iI x).toNatClampNeg : Nat) : Int) = wr x := by
  show ((iI x).toInt.toNat : Int) = wr x
  rw [wr_def]
  exact Int.toNat_of_nonneg h
theorem upd_iI (σ : Mem) {o j : Nat} {x v : Int} (h : 0 ≤ wr x) : upd (fun i => iI (σ o j (i : Int))) (iI x).toNatClampNeg (iI v) = fun i : Nat => iI (updM σ o j (wr x) v o j (i : Int)) := by
  funext i
  unfold upd updM
  by_cases e : i = (iI x).toNatClampNeg
  · rw [if_pos e, if_pos ⟨rfl, rfl, by rw [e]; exact ix_at h⟩]
  · rw [if_neg e, if_neg]
    rintro ⟨-, -, q⟩
    rw [← ix_at h] at q
    exact e (Int.ofNat.inj q)
theorem upd_lI (σ : Mem) {o j : Nat} {x v : Int} (h : 0 ≤ wr x) : vp_updL (fun i => lI (σ o j (i : Int))) (iI x).toNatClampNeg (lI v) = fun i : Nat => lI (updM σ o j (wr x) v o j (i : Int)) := by
  funext i
  unfold vp_updL updM
  by_cases e : i = (iI x).toNatClampNeg
  · rw [if_pos e, if_pos ⟨rfl, rfl, by rw [e]; exact ix_at h⟩]
  · rw [if_neg e, if_neg]
    rintro ⟨-, -, q⟩
    rw [← ix_at h] at q
    exact e (Int.ofNat.inj q)
theorem nar_Z {x : Int} (h : x = 0 ∨ x = 1) : narrow .boolean (.int (iI x)) = .int (iI x) := by rcases h with rfl | rfl <;> decide
theorem nar_B {x : Int} (h : -128 ≤ x ∧ x ≤ 127) : narrow .byte (.int (iI x)) = .int (iI x) := by
  show Value.int (iI x).toInt8.toInt32 = Value.int (iI x)
  have e1 : (iI x).toInt8 = Int8.ofInt x := Int32.toInt8_ofInt
  rw [e1, Int8.toInt32_ofInt h.1 h.2]
  rfl
theorem vp_Z {x : Int} (h : x = 0 ∨ x = 1) : vp_nar .boolean (iI x) = iI x := by unfold vp_nar; rw [nar_Z h]
theorem vp_B {x : Int} (h : -128 ≤ x ∧ x ≤ 127) : vp_nar .byte (iI x) = iI x := by unfold vp_nar; rw [nar_B h]
theorem fit_Z {x : Int} (h : x = 0 ∨ x = 1) : fits .boolean (.int (iI x)) = true := by rcases h with rfl | rfl <;> decide
end
section
/-! ===== rows over the world ===== -/
def gtb : List Cond := lw_tbl.filter goodWord
theorem gt_at {w : Cond} (i : Nat) (h : lw_tbl[i]? = some w) (hg : goodWord w = true) : w ∈ gtb := List.mem_filter.mpr ⟨List.mem_of_getElem? h, hg⟩
/-- a class's number: its fields in the tables, their kinds -/
def kindOK (k : Nat × Nat) (d : String) (fin : Bool) : Bool := match k.1 with
  | 0 => d == "I" && !fin
  | 1 => d == "J" && !fin
  | 2 => d == "Z" && !fin
  | _ => true
def CLK (ci : Nat) (C : String) (T : u_T) (N : Nat) : Prop := N = nF ci ∧ (∀ w ∈ u_ws C T N, w ∈ gtb) ∧ (∃ ty0 : Nat → FieldType, ∀ k, k < N → parseFieldDescriptor (T k).2.2.1 = some (ty0 k)) ∧ (∀ a, a < N → ∀ b, b < N → a ≠ b → (T a).2.1 ≠ (T b).2.1) ∧ ∀ k, k < N → (T k).1 = C ∧ kindOK (ftab ci k) (T k).2.2.1 (T k).2.2.2 = true
theorem uws_in {C : String} {T : u_T} {N : Nat} (ps : List Nat) (h : u_ws C T N = ps.filterMap (fun i => lw_tbl[i]?)) (hg : (u_ws C T N).all goodWord = true) : ∀ w ∈ u_ws C T N, w ∈ gtb := by
  intro w hw
  have h1 := List.all_eq_true.mp hg w hw
  rw [h] at hw
  obtain ⟨i, -, hi⟩ := List.mem_filterMap.mp hw
  exact gt_at i hi h1
set_option maxRecDepth 20000 in
theorem CLK_0 : CLK 0 RX0 TX0 3 := ⟨by decide +kernel, uws_in [460, 462, 464] (by decide +kernel) (by decide +kernel), ⟨tyX0, tyX0_ok⟩, nmX0, by decide +kernel⟩
set_option maxRecDepth 20000 in
theorem CLK_1 : CLK 1 RX1 TX1 5 := ⟨by decide +kernel, uws_in [481, 483, 485, 487, 489] (by decide +kernel) (by decide +kernel), ⟨tyX1, tyX1_ok⟩, nmX1, by decide +kernel⟩
set_option maxRecDepth 20000 in
theorem CLK_2 : CLK 2 RX2 TX2 8 := ⟨by decide +kernel, uws_in [408, 410, 412, 414, 416, 418, 420, 422] (by decide +kernel) (by decide +kernel), ⟨tyX2, tyX2_ok⟩, nmX2, by decide +kernel⟩
set_option maxRecDepth 20000 in
theorem CLK_3 : CLK 3 RX3 TX3 8 := ⟨by decide +kernel, uws_in [434, 436, 438, 440, 442, 444, 446, 448] (by decide +kernel) (by decide +kernel), ⟨tyX3, tyX3_ok⟩, nmX3, by decide +kernel⟩
set_option maxRecDepth 20000 in
theorem CLK_4 : CLK 4 RX4 TX4 4 := ⟨by decide +kernel, uws_in [541, 543, 545, 547] (by decide +kernel) (by decide +kernel), ⟨tyX4, tyX4_ok⟩, nmX4, by decide +kernel⟩
set_option maxRecDepth 20000 in
theorem CLK_5 : CLK 5 RX5 TX5 17 := ⟨by decide +kernel, uws_in [220, 222, 224, 226, 228, 230, 232, 234, 236, 238, 240, 242, 244, 246, 248, 250, 252] (by decide +kernel) (by decide +kernel), ⟨tyX5, tyX5_ok⟩, nmX5, by decide +kernel⟩
set_option maxRecDepth 20000 in
theorem CLK_6 : CLK 6 RX6 TX6 4 := ⟨by decide +kernel, uws_in [378, 380, 382, 384] (by decide +kernel) (by decide +kernel), ⟨tyX6, tyX6_ok⟩, nmX6, by decide +kernel⟩
set_option maxRecDepth 20000 in
theorem CLK_7 : CLK 7 RX7 TX7 14 := ⟨by decide +kernel, uws_in [332, 334, 336, 338, 340, 342, 344, 346, 348, 350, 352, 354, 356, 358] (by decide +kernel) (by decide +kernel), ⟨tyX7, tyX7_ok⟩, nmX7, by decide +kernel⟩
set_option maxRecDepth 20000 in
theorem CLK_8 : CLK 8 RX8 TX8 3 := ⟨by decide +kernel, uws_in [140, 142, 144] (by decide +kernel) (by decide +kernel), ⟨tyX8, tyX8_ok⟩, nmX8, by decide +kernel⟩
set_option maxRecDepth 20000 in
theorem CLK_9 : CLK 9 RX9 TX9 8 := ⟨by decide +kernel, uws_in [283, 285, 287, 289, 291, 293, 295, 297] (by decide +kernel) (by decide +kernel), ⟨tyX9, tyX9_ok⟩, nmX9, by decide +kernel⟩
set_option maxRecDepth 20000 in
theorem CLK_10 : CLK 10 RX10 TX10 9 := ⟨by decide +kernel, uws_in [510, 512, 514, 516, 518, 520, 522, 524, 526] (by decide +kernel) (by decide +kernel), ⟨tyX10, tyX10_ok⟩, nmX10, by decide +kernel⟩
set_option maxRecDepth 20000 in
theorem CLK_11 : CLK 11 RX11 TX11 14 := ⟨by decide +kernel, uws_in [565, 567, 569, 571, 573, 575, 577, 579, 581, 583, 585, 587, 589, 591] (by decide +kernel) (by decide +kernel), ⟨tyX11, tyX11_ok⟩, nmX11, by decide +kernel⟩
set_option maxRecDepth 20000 in
theorem CLK_12 : CLK 12 RX12 TX12 71 := ⟨by decide +kernel, uws_in [1295, 1297, 1299, 1301, 1303, 1305, 1307, 1309, 1311, 1313, 1315, 1317, 1319, 1321, 1323, 1325, 1327, 1329, 1331, 1333, 1335, 1337, 1339, 1341, 1343, 1345, 1347, 1349, 1351, 1353, 1355, 1357, 1359, 1361, 1363, 1365, 1367, 1369, 1371, 1373, 1375, 1377, 1379, 1381, 1383, 1385, 1387, 1389, 1391, 1393, 1395, 1397, 1399, 1401, 1403, 1405, 1407, 1409, 1411, 1413, 1415, 1417, 1419, 1421, 1423, 1425, 1427, 1429, 1431, 1433, 1435] (by decide +kernel) (by decide +kernel), ⟨tyX12, tyX12_ok⟩, nmX12, by decide +kernel⟩
theorem CLK_ok : ∀ (ci : Nat) (C : String) (T : u_T) (N : Nat), vwCl[ci]? = some (C, T, N) → CLK ci C T N := by
  intro ci C T N h
  match ci, h with
  | 0, h => cases h; exact CLK_0
  | 1, h => cases h; exact CLK_1
  | 2, h => cases h; exact CLK_2
  | 3, h => cases h; exact CLK_3
  | 4, h => cases h; exact CLK_4
  | 5, h => cases h; exact CLK_5
  | 6, h => cases h; exact CLK_6
  | 7, h => cases h; exact CLK_7
  | 8, h => cases h; exact CLK_8
  | 9, h => cases h; exact CLK_9
  | 10, h => cases h; exact CLK_10
  | 11, h => cases h; exact CLK_11
  | 12, h => cases h; exact CLK_12
  | n + 13, h => simp [vwCl] at h
def strL : List (String × (Nat × (String × Nat))) := [("ClothEnds$ShopReader", 59, "bale flaw thumb askew board form pair", 10), ("ClothEnds$RuleReader", 56, "from give", 12), ("ClothEnds$RuleReader", 75, "if", 20), ("ClothEnds$RuleReader", 109, "and or", 18), ("ClothEnds$RuleReader", 121, "not", 14), ("ClothEnds$RuleReader", 135, "left order rest flaws width lot stripe bale day", 16), ("ClothEndsModel", 200, "left", 40), ("ClothEndsModel", 201, "order", 42), ("ClothEndsModel", 203, "rest", 44), ("ClothEndsModel", 205, "flaws", 46), ("ClothEndsModel", 207, "width", 48), ("ClothEndsModel", 208, "lot", 50), ("ClothEndsModel", 209, "stripe", 52), ("ClothEndsModel", 210, "bale", 22), ("ClothEndsModel", 212, "day", 54), ("ClothEndsModel", 214, "flaw", 24), ("ClothEndsModel", 216, "thumb", 26), ("ClothEndsModel", 218, "askew", 28), ("ClothEndsModel", 220, "board", 30), ("ClothEndsModel", 222, "form", 32), ("ClothEndsModel", 224, "pair", 34), ("ClothEndsModel", 306, "not", 14), ("ClothEndsModel", 320, "and", 56), ("ClothEndsModel", 322, "or", 58), ("ClothEndsModel", 357, "give", 36), ("ClothEndsModel", 359, "from", 38), ("ClothEndsModel", 361, "if", 20)]
def FOK (own : String) (e : Nat × (Nat × Nat)) : Prop := ∃ (C : String) (T : u_T) (N : Nat), vwCl[e.2.1]? = some (C, T, N) ∧ e.2.2 < N ∧ Cond.fieldLink own e.1 C (T e.2.2).2.1 (T e.2.2).2.2.1 ∈ gtb
def statL : List (String × (String × (String × Vl))) := [("ClothEnds$ShopReader", "MOST_TOLD", "[I", vC 1), ("ClothEnds$ShopReader", "NUMBERS", "[I", vC 2), ("ClothEnds$ShopReader", "LEAST", "[I", vC 3), ("ClothEnds$ShopReader", "MOST", "[I", vC 4), ("java/lang/String", "COMPACT_STRINGS", "Z", vI 1), ("jdk/internal/util/Preconditions", "SIOOBE_FORMATTER", "Ljava/util/function/BiFunction;", vC 5)]
def KC (ad : Nat × Nat → Nat) (kd : Nat → Value) (z : Nat) (U : State) (H : Heap) : Prop :=
  ((∀ q, kd q = .null ∨ ∃ a, kd q = .ref a) ∧ ∀ q, ¬ q = 5 → ∃ a, kd q = .ref a) ∧
  (∀ q, ckind q = 3 → ∃ t, kd q = .ref t ∧ va_T .int t (clen q) (fun j => .int (iI (cval q (j : Int)))) (fun q => z ≤ q) U H) ∧
  (∀ q, ckind q = 6 → ∃ t, kd q = .ref t ∧ va_T .byte t (clen q) (fun j => .int (iI (cval q (j : Int)))) (fun q => z ≤ q) U H) ∧
  (∀ q, ckind q = 20 → ∃ t, kd q = .ref t ∧ va_O "java/lang/String" t (fun q => z ≤ q) U H ∧ va_OF "java/lang/String" "coder" "B" (.int 0) t (fun q => z ≤ q) U H ∧ va_OF "java/lang/String" "value" "[B" (kd (q + 1)) t (fun q => z ≤ q) U H) ∧
  (∀ e ∈ statL, va_Z e.1 e.2.1 e.2.2.1 (vv ad kd e.2.2.2) (fun q => z ≤ q) U H) ∧
  (∀ e ∈ strL, ∃ t, kd e.2.2.2 = .ref t ∧ vk_R e.1 e.2.1 e.2.2.1 t U)
theorem KC.moved {ad : Nat × Nat → Nat} {kd : Nat → Value} {z : Nat} {s U : State} {H H1 : Heap} (hW : s.WarmedH U.vm) (hq : ∀ q : Nat, q < H.size → ¬ z ≤ q → H1[q]? = H[q]?) (h : KC ad kd z s H) : KC ad kd z U H1 := by
  have hvm : s.vm.Alike U.vm := hW.alike
  obtain ⟨h1, h2, h3, h4, h5, h6⟩ := h
  refine ⟨h1, fun q hk => ?_, fun q hk => ?_, fun q hk => ?_, fun e he => ((h5 e he).moved hvm).kept hq, fun e he => ?_⟩
  · obtain ⟨t, a, b⟩ := h2 q hk
    exact ⟨t, a, (b.moved hvm).kept hq⟩
  · obtain ⟨t, a, b⟩ := h3 q hk
    exact ⟨t, a, (b.moved hvm).kept hq⟩
  · obtain ⟨t, a, b, c, d⟩ := h4 q hk
    exact ⟨t, a, (b.moved hvm).kept hq, (c.moved hvm).kept hq, (d.moved hvm).kept hq⟩
  · obtain ⟨t, a, b⟩ := h6 e he
    exact ⟨t, a, b.warm hW⟩
section RW
variable {p : Program} {l : Launch} {e : Env} {R : Room} {s : State} {m : MethodId} {args : Array Value} {below : List Frame} {meth : Method} {c : Code} {H : Heap} {locs : List Loc} {cells slots : Nat} {Q : State → Prop}
variable {cc : ByteArray} {pc : Nat} {ls : Array Slot} {rest : List Value} {D : va_G} {ad : Nat × Nat → Nat} {cA : Nat → ClassId} {kd : Nat → Value} {z : Nat} {σ : Mem} {own : String}
theorem vwCl_lt {ci : Nat} {q : vw_C} (h : vwCl[ci]? = some q) : ci < 13 := (List.getElem?_eq_some_iff.mp h).1
theorem r_get (hx : p.tables.exec = Jvm.exec) (hb : c.code = cc) (hts : ∀ w ∈ gtb, w.before args s = true) (hown : s.vm.findClass own = some m.cls) (hK : va_K D vwCl (tysG cA) s) (hP : va_P D vwCl (wlst ad cA σ) H) {n : Nat} {f : Nat × Nat} (hF : FOK own (n, f)) {o : Nat} (hc : cls o = f.1) (hdg : decode cc pc = .ok (.getfield n, 3))
    (kk : W p l e R s m args below meth c H locs cells slots Q (F0 m (pc + 3) ls (vv ad kd (fvl f.1 f.2 o σ) :: rest))) : W p l e R s m args below meth c H locs cells slots Q (F0 m pc ls (.ref (ad (o, 0)) :: rest)) := by
  obtain ⟨ci, j⟩ := f
  subst hc
  obtain ⟨C, T, N, h1, h2, h3⟩ := hF
  obtain ⟨g1, g2, -, -, g5⟩ := CLK_ok _ _ _ _ h1
  have hlt : cls o < 13 := vwCl_lt h1
  dsimp only at g1 h2 h3
  have hj : j < nF (cls o) := by rw [← g1]; exact h2
  obtain ⟨q0, -, hq⟩ := wl_at ad cA σ (dom_obj o (cls_lt rfl (Nat.lt_trans hlt (by decide))))
  refine va_get (D := D) (ci := cls o) (v := fieldV ad σ o j) (C := C) (T := T) (N := N) (ref := C) hx hb hts g2 hown hK hP q0 hq h1 j h2 (hts _ h3) (fun x h => by rw [← (g5 j h2).1]; exact h) ?_ hdg (by rw [vv_fvl ad kd σ rfl] at kk; exact kk)
  rw [List.getElem?_map, List.getElem?_range hj]
  rfl
theorem r_put (hx : p.tables.exec = Jvm.exec) (hb : c.code = cc) (hts : ∀ w ∈ gtb, w.before args s = true) (hown : s.vm.findClass own = some m.cls) (hK : va_K D vwCl (tysG cA) s) (hD : ∀ τ, va_D (fun q => z ≤ q) (wlst ad cA τ)) (hP : va_P D vwCl (wlst ad cA σ) H) (hS : va_S (fun q => z ≤ q) s.heap H locs) {n : Nat} {f : Nat × Nat} (hF : FOK own (n, f)) {o : Nat} (hc : cls o = f.1) {x : Int} {ty : FieldType} {v : Value} (hk3 : (ftab f.1 f.2).1 < 3) (hv : fieldV ad (updM σ o f.2 0 x) o f.2 = v) (hty : ∀ d fin, kindOK (ftab f.1 f.2) d fin = true → parseFieldDescriptor d = some ty ∧ fin = false) (hn : narrow ty v = v) (hfit : fits ty v = true) (hdg : decode cc pc = .ok (.putfield n, 3))
    (kk : ∀ (H1 : Heap) (locs1 : List Loc), va_P D vwCl (wlst ad cA (updM σ o f.2 0 x)) H1 → va_S (fun q => z ≤ q) s.heap H1 locs1 → W p l e R s m args below meth c H1 locs1 cells slots Q (F0 m (pc + 3) ls rest)) : W p l e R s m args below meth c H locs cells slots Q (F0 m pc ls (v :: .ref (ad (o, 0)) :: rest)) := by
  obtain ⟨ci, j⟩ := f
  subst hc
  obtain ⟨C, T, N, h1, h2, h3⟩ := hF
  obtain ⟨g1, g2, ⟨ty0, g3⟩, g4, g5⟩ := CLK_ok _ _ _ _ h1
  have hlt : cls o < 13 := vwCl_lt h1
  dsimp only at g1 h2 h3 hk3 hv hty kk
  have hj : j < nF (cls o) := by rw [← g1]; exact h2
  obtain ⟨q0, hd, hq⟩ := wl_at ad cA σ (dom_obj o (cls_lt rfl (Nat.lt_trans hlt (by decide))))
  obtain ⟨t1, t2⟩ := hty _ _ (g5 j h2).2
  refine va_put (D := D) (ci := cls o) (v := v) (ty := ty) (C := C) (T := T) (N := N) (ref := C) hx hb hts g2 ty0 g3 g4 hown hK hP (hD σ) hS q0 hq h1 j h2 (hts _ h3) (fun x h => by rw [← (g5 j h2).1]; exact h) t2 t1 hn hfit (by rw [List.length_map, List.length_range]; exact hj) hdg (fun H1 locs1 a1 _ a3 => kk H1 locs1 ?_ a3)
  have e1 := wl_set ad cA σ (updM σ o j 0 x) hd (kcell_obj ad cA σ hk3)
  rw [← e1]
  have e2 : kcell ad cA (updM σ o j 0 x) (o, 0) = .inr (cls o, ((List.range (nF (cls o))).map (fieldV ad σ o)).set j v) := by
    rw [← hv, ← fields_set ad σ hj]
    rfl
  rw [e2]
  exact a1
theorem tysG_at (cA : Nat → ClassId) : (tysG cA)[0]? = some (cA 0, .int) ∧ (tysG cA)[1]? = some (cA 1, .long) ∧ (tysG cA)[2]? = some (cA 2, .boolean) ∧ (tysG cA)[3]? = some (cA 3, .byte) ∧ (tysG cA)[4]? = some (cA 4, .object "ClothEnds$Stand") ∧ (tysG cA)[5]? = some (cA 5, .object "ClothEnds$Rule") := ⟨rfl, rfl, rfl, rfl, rfl, rfl⟩
theorem arr_at (ad : Nat × Nat → Nat) (cA : Nat → ClassId) (σ : Mem) {kd0 n o j : Nat} (h : arrK kd0 n o j) (hk : 3 ≤ kd0 ∧ kd0 ≤ 8) : ∃ q0 : Nat, domL[q0]? = some (o, j + 1) ∧ (wlst ad cA σ)[q0]? = some (ad (o, j + 1), arrE ad cA σ o j (kd0, n)) := by
  unfold arrK at h
  obtain ⟨q0, a, b⟩ := wl_at ad cA σ (dom_arr (o := o) (j := j) (by rw [h]; unfold isArr; simp only [Bool.and_eq_true, decide_eq_true_eq]; exact hk))
  refine ⟨q0, a, b.trans ?_⟩
  show some (ad (o, j + 1), arrE ad cA σ o j (ftab (cls o) j)) = _
  rw [h]
theorem r_iald (hx : p.tables.exec = Jvm.exec) (hb : c.code = cc) (hK : va_K D vwCl (tysG cA) s) (hP : va_P D vwCl (wlst ad cA σ) H) {n o j : Nat} {i : Int} (ha : arrK 3 n o j) (hi : 0 ≤ wr i ∧ wr i < n) (hdg : decode cc pc = .ok (.iaload, 1))
    (kk : W p l e R s m args below meth c H locs cells slots Q (F0 m (pc + 1) ls (.int (iI (σ o j (wr i))) :: rest))) : W p l e R s m args below meth c H locs cells slots Q (F0 m pc ls (.int (iI i) :: .ref (ad (o, j + 1)) :: rest)) := by
  obtain ⟨q0, -, hq⟩ := arr_at ad cA σ ha (by omega)
  rw [← ix_at hi.1] at kk
  exact va_iald hx hb hK hP q0 0 (f := fun i => iI (σ o j (i : Int))) hq (tysG_at cA).1 (ix_in hi) hdg kk
theorem r_lald (hx : p.tables.exec = Jvm.exec) (hb : c.code = cc) (hK : va_K D vwCl (tysG cA) s) (hP : va_P D vwCl (wlst ad cA σ) H) {n o j : Nat} {i : Int} (ha : arrK 4 n o j) (hi : 0 ≤ wr i ∧ wr i < n) (hdg : decode cc pc = .ok (.laload, 1))
    (kk : W p l e R s m args below meth c H locs cells slots Q (F0 m (pc + 1) ls (.long (lI (σ o j (wr i))) :: rest))) : W p l e R s m args below meth c H locs cells slots Q (F0 m pc ls (.int (iI i) :: .ref (ad (o, j + 1)) :: rest)) := by
  obtain ⟨q0, -, hq⟩ := arr_at ad cA σ ha (by omega)
  rw [← ix_at hi.1] at kk
  exact va_lald hx hb hK hP q0 1 (f := fun i => lI (σ o j (i : Int))) hq (tysG_at cA).2.1 (ix_in hi) hdg kk
theorem r_bald (hx : p.tables.exec = Jvm.exec) (hb : c.code = cc) (hK : va_K D vwCl (tysG cA) s) (hP : va_P D vwCl (wlst ad cA σ) H) {kd0 n o j : Nat} {i : Int} (hk : kd0 = 5 ∨ kd0 = 6) (ha : arrK kd0 n o j) (hi : 0 ≤ wr i ∧ wr i < n) (hdg : decode cc pc = .ok (.baload, 1))
    (kk : W p l e R s m args below meth c H locs cells slots Q (F0 m (pc + 1) ls (.int (iI (σ o j (wr i))) :: rest))) : W p l e R s m args below meth c H locs cells slots Q (F0 m pc ls (.int (iI i) :: .ref (ad (o, j + 1)) :: rest)) := by
  obtain ⟨q0, -, hq⟩ := arr_at ad cA σ ha (by omega)
  rw [← ix_at hi.1] at kk
  rcases hk with rfl | rfl
  · exact va_zald hx hb hK hP q0 2 (f := fun i => iI (σ o j (i : Int))) hq (tysG_at cA).2.2.1 (ix_in hi) hdg kk
  · exact va_bald hx hb hK hP q0 3 (f := fun i => iI (σ o j (i : Int))) hq (tysG_at cA).2.2.2.1 (ix_in hi) hdg kk
theorem r_aald (hx : p.tables.exec = Jvm.exec) (hb : c.code = cc) (hK : va_K D vwCl (tysG cA) s) (hP : va_P D vwCl (wlst ad cA σ) H) {kd0 n o j : Nat} {i : Int} (hk : kd0 = 7 ∨ kd0 = 8) (ha : arrK kd0 n o j) (hi : 0 ≤ wr i ∧ wr i < n) (hdg : decode cc pc = .ok (.aaload, 1))
    (kk : W p l e R s m args below meth c H locs cells slots Q (F0 m (pc + 1) ls (.ref (ad (eltC j (wr i), 0)) :: rest))) : W p l e R s m args below meth c H locs cells slots Q (F0 m pc ls (.int (iI i) :: .ref (ad (o, j + 1)) :: rest)) := by
  obtain ⟨q0, -, hq⟩ := arr_at ad cA σ ha (by omega)
  rw [← ix_at hi.1] at kk
  rcases hk with rfl | rfl
  · exact va_aldq hx hb hK hP q0 4 (f := fun i => some (ad (eltC j (i : Int), 0))) hq (tysG_at cA).2.2.2.2.1 (ix_in hi) hdg kk
  · exact va_aldq hx hb hK hP q0 5 (f := fun i => some (ad (eltC j (i : Int), 0))) hq (tysG_at cA).2.2.2.2.2 (ix_in hi) hdg kk
theorem r_iast (hx : p.tables.exec = Jvm.exec) (hb : c.code = cc) (hK : va_K D vwCl (tysG cA) s) (hD : ∀ τ, va_D (fun q => z ≤ q) (wlst ad cA τ)) (hP : va_P D vwCl (wlst ad cA σ) H) (hS : va_S (fun q => z ≤ q) s.heap H locs) {n o j : Nat} {i x : Int} (ha : arrK 3 n o j) (hi : 0 ≤ wr i ∧ wr i < n) (hdg : decode cc pc = .ok (.iastore, 1))
    (kk : ∀ (H1 : Heap) (locs1 : List Loc), va_P D vwCl (wlst ad cA (updM σ o j (wr i) x)) H1 → va_S (fun q => z ≤ q) s.heap H1 locs1 → W p l e R s m args below meth c H1 locs1 cells slots Q (F0 m (pc + 1) ls rest)) : W p l e R s m args below meth c H locs cells slots Q (F0 m pc ls (.int (iI x) :: .int (iI i) :: .ref (ad (o, j + 1)) :: rest)) := by
  obtain ⟨q0, hd, hq⟩ := arr_at ad cA σ ha (by omega)
  refine va_iast hx hb hK hP (hD σ) hS q0 0 (f := fun i => iI (σ o j (i : Int))) hq (tysG_at cA).1 (ix_in hi) hdg (fun H1 locs1 a1 _ a3 => kk H1 locs1 ?_ a3)
  rw [← wl_set ad cA σ (updM σ o j (wr i) x) hd (kcell_arr ad cA σ (by rw [show ftab (cls o) j = (3, n) from ha]; rfl))]
  have e2 : kcell ad cA (updM σ o j (wr i) x) (o, j + 1) = .inl (cA 0, n, .inl (upd (fun i => iI (σ o j (i : Int))) (iI i).toNatClampNeg (iI x))) := by
    rw [upd_iI σ hi.1]
    show arrE ad cA _ o j (ftab (cls o) j) = _
    rw [show ftab (cls o) j = (3, n) from ha]
    rfl
  rw [e2]
  exact a1
theorem r_last (hx : p.tables.exec = Jvm.exec) (hb : c.code = cc) (hK : va_K D vwCl (tysG cA) s) (hD : ∀ τ, va_D (fun q => z ≤ q) (wlst ad cA τ)) (hP : va_P D vwCl (wlst ad cA σ) H) (hS : va_S (fun q => z ≤ q) s.heap H locs) {n o j : Nat} {i x : Int} (ha : arrK 4 n o j) (hi : 0 ≤ wr i ∧ wr i < n) (hdg : decode cc pc = .ok (.lastore, 1))
    (kk : ∀ (H1 : Heap) (locs1 : List Loc), va_P D vwCl (wlst ad cA (updM σ o j (wr i) x)) H1 → va_S (fun q => z ≤ q) s.heap H1 locs1 → W p l e R s m args below meth c H1 locs1 cells slots Q (F0 m (pc + 1) ls rest)) : W p l e R s m args below meth c H locs cells slots Q (F0 m pc ls (.long (lI x) :: .int (iI i) :: .ref (ad (o, j + 1)) :: rest)) := by
  obtain ⟨q0, hd, hq⟩ := arr_at ad cA σ ha (by omega)
  refine va_last hx hb hK hP (hD σ) hS q0 1 (f := fun i => lI (σ o j (i : Int))) hq (tysG_at cA).2.1 (ix_in hi) hdg (fun H1 locs1 a1 _ a3 => kk H1 locs1 ?_ a3)
  rw [← wl_set ad cA σ (updM σ o j (wr i) x) hd (kcell_arr ad cA σ (by rw [show ftab (cls o) j = (4, n) from ha]; rfl))]
  have e2 : kcell ad cA (updM σ o j (wr i) x) (o, j + 1) = .inl (cA 1, n, .inr (.inl (vp_updL (fun i => lI (σ o j (i : Int))) (iI i).toNatClampNeg (lI x)))) := by
    rw [upd_lI σ hi.1]
    show arrE ad cA _ o j (ftab (cls o) j) = _
    rw [show ftab (cls o) j = (4, n) from ha]
    rfl
  rw [e2]
  exact a1
theorem r_bast (hx : p.tables.exec = Jvm.exec) (hb : c.code = cc) (hK : va_K D vwCl (tysG cA) s) (hD : ∀ τ, va_D (fun q => z ≤ q) (wlst ad cA τ)) (hP : va_P D vwCl (wlst ad cA σ) H) (hS : va_S (fun q => z ≤ q) s.heap H locs) {kd0 n o j : Nat} {i x : Int} (hk : (kd0 = 5 ∧ (x = 0 ∨ x = 1)) ∨ (kd0 = 6 ∧ -128 ≤ x ∧ x ≤ 127)) (ha : arrK kd0 n o j) (hi : 0 ≤ wr i ∧ wr i < n) (hdg : decode cc pc = .ok (.bastore, 1))
    (kk : ∀ (H1 : Heap) (locs1 : List Loc), va_P D vwCl (wlst ad cA (updM σ o j (wr i) x)) H1 → va_S (fun q => z ≤ q) s.heap H1 locs1 → W p l e R s m args below meth c H1 locs1 cells slots Q (F0 m (pc + 1) ls rest)) : W p l e R s m args below meth c H locs cells slots Q (F0 m pc ls (.int (iI x) :: .int (iI i) :: .ref (ad (o, j + 1)) :: rest)) := by
  obtain ⟨q0, hd, hq⟩ := arr_at ad cA σ ha (by omega)
  rcases hk with ⟨rfl, hx1⟩ | ⟨rfl, hx1⟩
  · refine va_zast hx hb hK hP (hD σ) hS q0 2 (f := fun i => iI (σ o j (i : Int))) hq (tysG_at cA).2.2.1 (ix_in hi) hdg (fun H1 locs1 a1 _ a3 => kk H1 locs1 ?_ a3)
    rw [vp_Z hx1] at a1
    rw [← wl_set ad cA σ (updM σ o j (wr i) x) hd (kcell_arr ad cA σ (by rw [show ftab (cls o) j = (5, n) from ha]; rfl))]
    have e2 : kcell ad cA (updM σ o j (wr i) x) (o, j + 1) = .inl (cA 2, n, .inl (upd (fun i => iI (σ o j (i : Int))) (iI i).toNatClampNeg (iI x))) := by
      rw [upd_iI σ hi.1]
      show arrE ad cA _ o j (ftab (cls o) j) = _
      rw [show ftab (cls o) j = (5, n) from ha]
      rfl
    rw [e2]
    exact a1
  · refine va_bast hx hb hK hP (hD σ) hS q0 3 (f := fun i => iI (σ o j (i : Int))) hq (tysG_at cA).2.2.2.1 (ix_in hi) hdg (fun H1 locs1 a1 _ a3 => kk H1 locs1 ?_ a3)
    rw [vp_B hx1] at a1
    rw [← wl_set ad cA σ (updM σ o j (wr i) x) hd (kcell_arr ad cA σ (by rw [show ftab (cls o) j = (6, n) from ha]; rfl))]
    have e2 : kcell ad cA (updM σ o j (wr i) x) (o, j + 1) = .inl (cA 3, n, .inl (upd (fun i => iI (σ o j (i : Int))) (iI i).toNatClampNeg (iI x))) := by
      rw [upd_iI σ hi.1]
      show arrE ad cA _ o j (ftab (cls o) j) = _
      rw [show ftab (cls o) j = (6, n) from ha]
      rfl
    rw [e2]
    exact a1
theorem r_alen (hx : p.tables.exec = Jvm.exec) (hb : c.code = cc) (hK : va_K D vwCl (tysG cA) s) (hP : va_P D vwCl (wlst ad cA σ) H) {kd0 n o j : Nat} (hk : 3 ≤ kd0 ∧ kd0 ≤ 8) (ha : arrK kd0 n o j) (hdg : decode cc pc = .ok (.arraylength, 1))
    (kk : W p l e R s m args below meth c H locs cells slots Q (F0 m (pc + 1) ls (.int (iI n) :: rest))) : W p l e R s m args below meth c H locs cells slots Q (F0 m pc ls (.ref (ad (o, j + 1)) :: rest)) := by
  obtain ⟨q0, -, hq⟩ := arr_at ad cA σ ha hk
  have hv : Int32.ofNat n = iI n := (Int32.ofInt_eq_ofNat (n := n)).symm
  obtain ⟨t0, t1, t2, t3, t4, t5⟩ := tysG_at cA
  have h3 : kd0 = 3 ∨ kd0 = 4 ∨ kd0 = 5 ∨ kd0 = 6 ∨ kd0 = 7 ∨ kd0 = 8 := by omega
  rcases h3 with rfl | rfl | rfl | rfl | rfl | rfl
  · exact va_alen hx hb hK hP q0 0 (x := (n, .inl _)) hq t0 hv hdg kk
  · exact va_alen hx hb hK hP q0 1 (x := (n, .inr (.inl _))) hq t1 hv hdg kk
  · exact va_alen hx hb hK hP q0 2 (x := (n, .inl _)) hq t2 hv hdg kk
  · exact va_alen hx hb hK hP q0 3 (x := (n, .inl _)) hq t3 hv hdg kk
  · exact va_alen hx hb hK hP q0 4 (x := (n, .inr (.inr (.inr (.inr _))))) hq t4 hv hdg kk
  · exact va_alen hx hb hK hP q0 5 (x := (n, .inr (.inr (.inr (.inr _))))) hq t5 hv hdg kk
end RW
end
section
/-! ===== contracts of methods, and one row of code ===== -/
def rmd (d : Nat) : Room := { frames := d, cells := 0, slots := 0, locals := 40 * d }
def QX (D : va_G) (ad : Nat × Nat → Nat) (cA : Nat → ClassId) (kd : Nat → Value) (z : Nat) (Q : Pst) : Array Value → State → Outcome → State → Prop := fun _ st oc t => (∃ (r : Option Vl) (u : Mem), oc = .returned (r.map (vv ad kd)) ∧ Q r u ∧ va_P D vwCl (wlst ad cA u) t.heap) ∧ va_F (fun q => z ≤ q) st t
def WD (D : va_G) (ad : Nat × Nat → Nat) (cA : Nat → ClassId) (kd : Nat → Value) (z : Nat) (σ : Mem) (U : State) : Prop := va_P D vwCl (wlst ad cA σ) U.heap ∧ va_K D vwCl (tysG cA) U ∧ (∀ τ, va_D (fun q => z ≤ q) (wlst ad cA τ)) ∧ KC ad kd z U U.heap
def MT (y : MethodName) (b : ByteArray) (maxL : Nat) (ret : Option FieldType) (d : Nat) (wpc : Cle) : Prop := ∀ (l : Launch) (D : va_G) (ad : Nat × Nat → Nat) (cA : Nat → ClassId) (kd : Nat → Value) (z : Nat) (as : List Vl) (σ : Mem) (Q : Pst), wpc as σ Q → Met l y (.code y b maxL ret :: gtb) (rmd d) (va_Pc (as.map (vv ad kd)) (fun U => WD D ad cA kd z σ U)) (QX D ad cA kd z Q) 0 0 (fun q => z ≤ q)
def KOK (own : String) (e : Nat × (Nat × Vl)) : Prop := match e.2.1 with
  | 0 => ∃ x : Int, e.2.2 = vI x ∧ Cond.constant own e.1 (iI x) ∈ gtb
  | 1 => ∃ x : Int, e.2.2 = vL x ∧ Cond.constantLong own e.1 (lI x) ∈ gtb
  | 2 => ∃ (tx : String) (k : Nat), e.2.2 = vC k ∧ (own, e.1, tx, k) ∈ strL
  | 3 => ∃ C n d : String, (C, n, d, e.2.2) ∈ statL ∧ Cond.fieldLink own e.1 C n d ∈ gtb
  | 4 => Cond.fieldLink own e.1 "java/lang/String" "coder" "B" ∈ gtb
  | 5 => Cond.fieldLink own e.1 "java/lang/String" "value" "[B" ∈ gtb
  | 6 => Cond.methodLink own e.1 Lib.Math.max.name ∈ gtb ∧ Cond.static Lib.Math.max.name ∈ gtb ∧ Cond.initialized "java/lang/Math" ∈ gtb ∧ Cond.code Lib.Math.max.name Lib.Math.max.code 2 (some .int) ∈ gtb
  | 7 => Cond.methodLink own e.1 Lib.Math.min.name ∈ gtb ∧ Cond.static Lib.Math.min.name ∈ gtb ∧ Cond.initialized "java/lang/Math" ∈ gtb ∧ Cond.code Lib.Math.min.name Lib.Math.min.code 2 (some .int) ∈ gtb
  | 8 => Cond.methodLink own e.1 Lib.MathLoose.max_long.x ∈ gtb ∧ Cond.static Lib.MathLoose.max_long.x ∈ gtb ∧ Cond.initialized "java/lang/Math" ∈ gtb ∧ Cond.code Lib.MathLoose.max_long.x Lib.MathLoose.max_long.code 4 (some .long) ∈ gtb
  | _ => False
/-- a call's callee: its contract, at a smaller depth; what the tables say of the call -/
def COK (d0 : Nat) (own : String) (e : Nat × ((Nat × (Nat × Nat)) × Cle)) : Prop := ∃ (y : MethodName) (b : ByteArray) (maxL : Nat) (ret : Option FieldType) (d : Nat), MT y b maxL ret d e.2.2 ∧ d < d0 ∧ maxL ≤ 20 ∧ Cond.code y b maxL ret ∈ gtb ∧ Cond.methodLink own e.1 y ∈ gtb ∧ Cond.initialized y.cls ∈ gtb ∧ (y.cls ≠ "java/lang/invoke/MethodHandle" ∧ y.cls ≠ "java/lang/invoke/VarHandle") ∧
  ((e.2.1.1 = 0 ∧ Cond.static y ∈ gtb ∧ (parseMethodDescriptor y.desc).map (fun d => d.parameters.length) = some e.2.1.2.2) ∨
   (e.2.1.1 = 1 ∧ 0 < e.2.1.2.2 ∧ Cond.instanceMethod y ∈ gtb ∧ Cond.selects y.cls y y ∈ gtb ∧ (parseMethodDescriptor y.desc).map (fun d => d.parameters.length) = some (e.2.1.2.2 - 1) ∧ ((e.2.1.2.1 = 100 ∧ y.cls = "java/lang/String") ∨ ∃ (T : u_T) (N : Nat), vwCl[e.2.1.2.1]? = some (y.cls, T, N))))
theorem lkF_mem {n : Nat} {f : Nat × Nat} : ∀ {l : List (Nat × (Nat × Nat))}, lkF n l = some f → (n, f) ∈ l
  | [], h => by cases h
  | e :: r, h => by
    unfold lkF at h
    split at h
    · cases h
      rename_i q
      exact List.mem_cons.mpr (Or.inl (by rw [← q]))
    · exact List.mem_cons_of_mem _ (lkF_mem h)
theorem lkK_mem {n : Nat} {f : Nat × Vl} : ∀ {l : List (Nat × (Nat × Vl))}, lkK n l = some f → (n, f) ∈ l
  | [], h => by cases h
  | e :: r, h => by
    unfold lkK at h
    split at h
    · cases h
      rename_i q
      exact List.mem_cons.mpr (Or.inl (by rw [← q]))
    · exact List.mem_cons_of_mem _ (lkK_mem h)
theorem lkC_mem {n : Nat} {f : (Nat × (Nat × Nat)) × Cle} : ∀ {l : List (Nat × ((Nat × (Nat × Nat)) × Cle))}, lkC n l = some f → (n, f) ∈ l
  | [], h => by cases h
  | e :: r, h => by
    unfold lkC at h
    split at h
    · cases h
      rename_i q
      exact List.mem_cons.mpr (Or.inl (by rw [← q]))
    · exact List.mem_cons_of_mem _ (lkC_mem h)
theorem lkB_mem {n : Nat} {f : List Nat × List Ent} : ∀ {l : List (Nat × (List Nat × List Ent))}, lkB n l = some f → (n, f) ∈ l
  | [], h => by cases h
  | e :: r, h => by
    unfold lkB at h
    split at h
    · cases h
      rename_i q
      exact List.mem_cons.mpr (Or.inl (by rw [← q]))
    · exact List.mem_cons_of_mem _ (lkB_mem h)
/-- the locals as the rows have them -/
def lm (ad : Nat × Nat → Nat) (kd : Nat → Value) (env : Lc) : List (Nat × Value) := env.map (fun q => (q.1, vv ad kd q.2))
theorem lget_at {ad : Nat × Nat → Nat} {kd : Nat → Value} {nL : Nat} {ls : Array Slot} {n : Nat} {v : Vl} : ∀ {env : Lc}, lv_has ls nL (lm ad kd env) → lget env n = some v → ls[n]? = some (.val (vv ad kd v)) := by
  intro env hl h
  have hm : (n, v) ∈ env := by
    clear hl
    induction env with
    | nil => cases h
    | cons q r ih =>
      unfold lget at h
      split at h
      · cases h
        rename_i e
        exact List.mem_cons.mpr (Or.inl (by rw [← e]))
      · exact List.mem_cons_of_mem _ (ih h)
  exact hl.2.2 (n, vv ad kd v) (List.mem_map.mpr ⟨(n, v), hm, rfl⟩)
theorem vv_cat {ad : Nat × Nat → Nat} {kd : Nat → Value} (hk : ∀ q, kd q = .null ∨ ∃ a, kd q = .ref a) (v : Vl) : (vv ad kd v).category = vcat v := by
  rcases v with x | x | (_ | d) | k
  · rfl
  · rfl
  · rfl
  · rfl
  · rcases hk k with h | ⟨a, h⟩
    · show (kd k).category = 1
      rw [h]; rfl
    · show (kd k).category = 1
      rw [h]; rfl
theorem lm_set1 {ad : Nat × Nat → Nat} {kd : Nat → Value} (hk : ∀ q, kd q = .null ∨ ∃ a, kd q = .ref a) (env : Lc) (n : Nat) (v : Vl) : (n, vv ad kd v) :: (lm ad kd env).filter (fun q => !(q.1 == n) && !(q.1 + 1 == n && q.2.category == 2)) = lm ad kd (lset1 env n v) := by
  unfold lm lset1
  rw [List.map_cons, List.filter_map]
  congr 2
  refine List.filter_congr fun q _ => ?_
  show (!(q.1 == n) && !(q.1 + 1 == n && (vv ad kd q.2).category == 2)) = _
  rw [vv_cat hk]
theorem lm_set2 {ad : Nat × Nat → Nat} {kd : Nat → Value} (hk : ∀ q, kd q = .null ∨ ∃ a, kd q = .ref a) (env : Lc) (n : Nat) (v : Vl) : (n, vv ad kd v) :: (lm ad kd env).filter (fun q => !(q.1 == n) && (!(q.1 == n + 1) && !(q.1 + 1 == n && q.2.category == 2))) = lm ad kd (lset2 env n v) := by
  unfold lm lset2
  rw [List.map_cons, List.filter_map]
  congr 2
  refine List.filter_congr fun q _ => ?_
  show (!(q.1 == n) && (!(q.1 == n + 1) && !(q.1 + 1 == n && (vv ad kd q.2).category == 2))) = _
  rw [vv_cat hk]
theorem pI_inv {st : List Vl} {k : Int → List Vl → Prop} (h : pI st k) : ∃ x r, st = vI x :: r ∧ k x r := by
  unfold pI at h
  split at h
  · exact ⟨_, _, rfl, h⟩
  · exact h.elim
theorem pL_inv {st : List Vl} {k : Int → List Vl → Prop} (h : pL st k) : ∃ x r, st = vL x :: r ∧ k x r := by
  unfold pL at h
  split at h
  · exact ⟨_, _, rfl, h⟩
  · exact h.elim
theorem pV_inv {st : List Vl} {k : Vl → List Vl → Prop} (h : pV st k) : ∃ x r, st = x :: r ∧ k x r := by
  unfold pV at h
  split at h
  · exact ⟨_, _, rfl, h⟩
  · exact h.elim
theorem pN_inv {k : List Vl → List Vl → Prop} : ∀ (n : Nat) (acc st : List Vl), pN n acc st k → ∃ top r, top.length = n ∧ st = top ++ r ∧ k (top.reverse ++ acc) r
  | 0, acc, st, h => ⟨[], st, rfl, rfl, h⟩
  | n + 1, acc, v :: st, h => by
    obtain ⟨top, r, h1, h2, h3⟩ := pN_inv n (v :: acc) st h
    refine ⟨v :: top, r, by rw [List.length_cons, h1], by rw [h2]; rfl, ?_⟩
    rw [List.reverse_cons, List.append_assoc]
    exact h3
  | n + 1, _, [], h => h.elim
theorem gI_inv {env : Lc} {n : Nat} {k : Int → Prop} (h : gI env n k) : ∃ x, lget env n = some (vI x) ∧ k x := by
  unfold gI at h
  split at h
  · rename_i x e
    exact ⟨x, e, h⟩
  · exact h.elim
theorem gL_inv {env : Lc} {n : Nat} {k : Int → Prop} (h : gL env n k) : ∃ x, lget env n = some (vL x) ∧ k x := by
  unfold gL at h
  split at h
  · rename_i x e
    exact ⟨x, e, h⟩
  · exact h.elim
theorem gA_inv {env : Lc} {n : Nat} {k : Vl → Prop} (h : gA env n k) : ∃ v, lget env n = some v ∧ k v ∧ ((∃ d, v = .inr (.inr (.inl (some d)))) ∨ ∃ q, v = vC q ∧ ¬ q = 5) := by
  unfold gA at h
  split at h
  · rename_i d e
    exact ⟨_, e, h, Or.inl ⟨_, rfl⟩⟩
  · rename_i q e
    exact ⟨_, e, h.2, Or.inr ⟨_, rfl, h.1⟩⟩
  · exact h.elim
theorem rI_inv {st : List Vl} {k : Int → Prop} (h : rI st k) : ∃ x, st = [vI x] ∧ k x := by
  unfold rI at h
  split at h
  · exact ⟨_, rfl, h⟩
  · exact h.elim
theorem rL_inv {st : List Vl} {k : Int → Prop} (h : rL st k) : ∃ x, st = [vL x] ∧ k x := by
  unfold rL at h
  split at h
  · exact ⟨_, rfl, h⟩
  · exact h.elim
theorem rA_inv {st : List Vl} {k : Nat → Prop} (h : rA st k) : ∃ x, st = [vC x] ∧ k x := by
  unfold rA at h
  split at h
  · exact ⟨_, rfl, h⟩
  · exact h.elim
theorem rV_inv {st : List Vl} {k : Prop} (h : rV st k) : st = [] ∧ k := by
  unfold rV at h
  split at h
  · exact ⟨rfl, h⟩
  · exact h.elim
theorem ldK_inv {E : EE} {n tag : Nat} {k : Vl → Prop} (h : ldK E n tag k) : ∃ v, (n, (tag, v)) ∈ E.2.2.2.1 ∧ k v := by
  unfold ldK at h
  split at h
  · rename_i e he
    obtain ⟨h1, h2⟩ := h
    refine ⟨e.2, ?_, h2⟩
    have := lkK_mem he
    rw [← h1]
    exact this
  · exact h.elim
/-- the locals of a block's begin are among those that there are -/
theorem coll_inv {ad : Nat × Nat → Nat} {kd : Nat → Value} {nL : Nat} {ls : Array Slot} {env : Lc} {k : List Vl → Prop} (hl : lv_has ls nL (lm ad kd env)) : ∀ (lv : List Nat) (pre acc : List Nat) (av : List Vl), pre.length = av.length → lv_has ls nL (lm ad kd (pre.zip av.reverse)) → coll lv env av k → ∃ vals, k vals ∧ lv_has ls nL (lm ad kd ((pre ++ lv).zip vals))
  | [], pre, acc, av, hlen, ha, h => ⟨av.reverse, h, by rw [List.append_nil]; exact ha⟩
  | n :: r, pre, acc, av, hlen, ha, h => by
    unfold coll at h
    split at h
    · rename_i v e
      have hv := lget_at hl e
      obtain ⟨vals, h1, h2⟩ := coll_inv hl r (pre ++ [n]) acc (v :: av) (by simp [hlen]) (by
        refine ⟨ha.1, ha.2.1, fun q hq => ?_⟩
        rw [List.reverse_cons, List.zip_append (by simp [hlen])] at hq
        unfold lm at hq
        rw [List.map_append] at hq
        rcases List.mem_append.mp hq with h4 | h4
        · exact ha.2.2 q h4
        · have : q = (n, vv ad kd v) := by simpa using h4
          rw [this]
          exact hv) h
      exact ⟨vals, h1, by rw [List.append_assoc] at h2; exact h2⟩
    · exact h.elim
section IN
variable {p : Program} {l : Launch} {e : Env} {R : Room} {s : State} {m : MethodId} {args : Array Value} {below : List Frame} {meth : Method} {c : Code} {cells slots : Nat} {Q : State → Prop}
variable {cc : ByteArray} {D : va_G} {ad : Nat × Nat → Nat} {cA : Nat → ClassId} {kd : Nat → Value} {z : Nat} {own : String} {E : EE} {d0 : Nat} {post : Pst} {P : Nat → List Vl → List Vl → Mem → Prop}
/-- what stays through a method's run -/
def CX (p : Program) (R : Room) (s : State) (m : MethodId) (args : Array Value) (c : Code) (cells slots : Nat) (cc : ByteArray) (D : va_G) (ad : Nat × Nat → Nat) (cA : Nat → ClassId) (kd : Nat → Value) (z : Nat) (own : String) (E : EE) (d0 : Nat) : Prop :=
  (p.tables.exec = Jvm.exec ∧ c.code = cc ∧ c.maxLocals = E.1 ∧ s.vm.findClass own = some m.cls ∧ (∀ w ∈ gtb, w.before args s = true)) ∧
  (va_K D vwCl (tysG cA) s ∧ (∀ τ, va_D (fun q => z ≤ q) (wlst ad cA τ)) ∧ KC ad kd z s s.heap) ∧
  ((∀ f ∈ E.2.2.1, FOK own f) ∧ (∀ f ∈ E.2.2.2.1, KOK own f) ∧ (∀ f ∈ E.2.2.2.2.1, COK d0 own f)) ∧
  (((∀ d, d < d0 → d + 1 ≤ R.frames ∧ 39 + 40 * d ≤ R.locals) ∧ 0 < d0) ∧ cells ≤ R.cells ∧ slots ≤ R.slots) ∧
  (0 < E.2.2.2.2.2.1 → ∃ b, kd 7 = .ref b ∧ va_X b (E.2.2.2.2.2.1 - 1) (fun j => iI (E.2.2.2.2.2.2 j)) s s.heap ∧ b < s.heap.size ∧ ¬ z ≤ b)
def IV (D : va_G) (ad : Nat × Nat → Nat) (cA : Nat → ClassId) (z : Nat) (s : State) (σ : Mem) (H : Heap) (locs : List Loc) : Prop := va_P D vwCl (wlst ad cA σ) H ∧ va_S (fun q => z ≤ q) s.heap H locs
theorem callX {H : Heap} {locs : List Loc} {pc : Nat} {ls : Array Slot} {rest st0 : List Value} {Qp : Pst} {a : Array Value} {free : Addr → Prop} (hr : va_Run p l e R s m args below meth c H locs cells slots 0 0 (F0 m pc ls st0) rest (QX D ad cA kd z Qp a) free) (hS : va_S (fun q => z ≤ q) s.heap H locs) (hf : ∀ q, free q → z ≤ q)
    (kk : ∀ (r : Option Vl) (u : Mem) (H1 : Heap) (locs1 : List Loc), Qp r u → IV D ad cA z s u H1 locs1 → W p l e R s m args below meth c H1 locs1 cells slots Q (F0 m (pc + 3) ls ((r.map (vv ad kd)).toList ++ rest))) : W p l e R s m args below meth c H locs cells slots Q (F0 m pc ls st0) := by
  intro T hT X
  obtain ⟨v, st₀, t, T', L, h0, X', hL, e1, e2, ⟨⟨r, u, hv, hp, hb⟩, hz, hk⟩, st⟩ := hr T hT X
  cases hv
  rw [h0] at hz hk
  obtain ⟨t2, a1, b1⟩ := kk r u T'.heap (locs ++ L) hp ⟨by rw [e1]; exact hb, Nat.le_trans hS.1 (by rw [e1]; exact hz), fun q h1 h2 => by rw [e1, hk q (Nat.lt_of_lt_of_le h1 hS.1) h2]; exact hS.2.1 q h1 h2, fun q hq => by
      rcases List.mem_append.mp hq with h | h
      · exact hS.2.2 q h
      · exact hf _ (hL q h)⟩ T' rfl X'
  exact ⟨t2, st t2 a1, b1⟩
end IN
end
section
theorem lget_mem {n : Nat} {v : Vl} : ∀ {env : Lc}, lget env n = some v → (n, v) ∈ env
  | [], h => by cases h
  | q :: r, h => by
    unfold lget at h
    split at h
    · cases h
      rename_i e
      exact List.mem_cons.mpr (Or.inl (by rw [← e]))
    · exact List.mem_cons_of_mem _ (lget_mem h)
theorem dup2_inv {st : List Vl} {k : List Vl → Prop} (h : dup2P st k) : (∃ x r, st = vL x :: r ∧ k (vL x :: vL x :: r)) ∨ ∃ x y r, st = x :: y :: r ∧ (vcat x = 1 ∧ vcat y = 1) ∧ k (x :: y :: x :: y :: r) := by
  unfold dup2P at h
  split at h
  · exact Or.inl ⟨_, _, rfl, h⟩
  · exact Or.inr ⟨_, _, _, rfl, h.1, h.2⟩
  · exact h.elim
theorem swl_nn {x : Int} {pc : Nat} {d : Int} (h0 : 0 ≤ (pc : Int) + d) : ∀ (l : List (Int × Int)), (∀ q ∈ l, 0 ≤ (pc : Int) + q.2) → 0 ≤ (pc : Int) + Op.lookupswitch.offset l d x
  | [], _ => h0
  | q :: r, h => by
    rw [show q :: r = (q.1, q.2) :: r from rfl, Op.lookupswitch.offset_cons]
    by_cases e : q.1 = x
    · rw [if_pos e]
      exact h q List.mem_cons_self
    · rw [if_neg e]
      exact swl_nn h0 r (fun q' hq => h q' (List.mem_cons_of_mem _ hq))
theorem getF_inv {E : EE} {n : Nat} {st : List Vl} {σ : Mem} {k : List Vl → Prop} (h : getF E n st σ k) : (∃ f o r, (n, f) ∈ E.2.2.1 ∧ st = vR o 0 :: r ∧ cls o = f.1 ∧ k (fvl f.1 f.2 o σ :: r)) ∨ (∃ v q r, (n, (4, v)) ∈ E.2.2.2.1 ∧ st = vC q :: r ∧ ckind q = 20 ∧ k (vI 0 :: r)) ∨ ∃ v q r, (n, (5, v)) ∈ E.2.2.2.1 ∧ st = vC q :: r ∧ ckind q = 20 ∧ k (vC (q + 1) :: r) := by
  unfold getF at h
  split at h
  · rename_i f hf
    split at h
    · exact Or.inl ⟨f, _, _, lkF_mem hf, rfl, h.1, h.2⟩
    · exact h.elim
  · split at h
    · rename_i v hv
      split at h
      · exact Or.inr (Or.inl ⟨v, _, _, lkK_mem hv, rfl, h.1, h.2⟩)
      · exact h.elim
    · rename_i v hv
      split at h
      · exact Or.inr (Or.inr ⟨v, _, _, lkK_mem hv, rfl, h.1, h.2⟩)
      · exact h.elim
    · exact h.elim
theorem putF_inv {E : EE} {n : Nat} {st : List Vl} {σ : Mem} {k : List Vl → Mem → Prop} (h : putF E n st σ k) : (∃ f x o r, (n, f) ∈ E.2.2.1 ∧ st = vI x :: vR o 0 :: r ∧ cls o = f.1 ∧ ((ftab f.1 f.2).1 = 0 ∨ ((ftab f.1 f.2).1 = 2 ∧ (x = 0 ∨ x = 1))) ∧ k r (updM σ o f.2 0 x)) ∨ ∃ f x o r, (n, f) ∈ E.2.2.1 ∧ st = vL x :: vR o 0 :: r ∧ cls o = f.1 ∧ (ftab f.1 f.2).1 = 1 ∧ k r (updM σ o f.2 0 x) := by
  unfold putF at h
  split at h
  · rename_i f hf
    split at h
    · exact Or.inl ⟨f, _, _, _, lkF_mem hf, rfl, h.1, h.2.1, h.2.2⟩
    · exact Or.inr ⟨f, _, _, _, lkF_mem hf, rfl, h.1, h.2.1, h.2.2⟩
    · exact h.elim
  · exact h.elim
theorem aLd_inv {E : EE} {kd0 : Nat} {st : List Vl} {σ : Mem} {mk : Int → Vl} {k : List Vl → Prop} (h : aLd E kd0 st σ mk k) : (∃ i o j r n, st = vI i :: vR o (j + 1) :: r ∧ arrK kd0 n o j ∧ (0 ≤ wr i ∧ wr i < n) ∧ k (mk (σ o j (wr i)) :: r)) ∨ (∃ i r, st = vI i :: vC 7 :: r ∧ kd0 = 3 ∧ (0 ≤ wr i ∧ wr i < (E.2.2.2.2.2.1 : Int) - 1) ∧ k (vI (E.2.2.2.2.2.2 (wr i).toNat) :: r)) ∨ ∃ i q r, st = vI i :: vC q :: r ∧ (ckind q = 3 ∧ kd0 = 3) ∧ (0 ≤ wr i ∧ wr i < clen q) ∧ k (vI (cval q (wr i)) :: r) := by
  unfold aLd at h
  split at h
  · obtain ⟨n, h1, h2, h3⟩ := h
    exact Or.inl ⟨_, _, _, _, n, rfl, h1, h2, h3⟩
  · rcases h with ⟨⟨rfl, h1⟩, h2, h3⟩ | ⟨h1, h2, h3⟩
    · exact Or.inr (Or.inl ⟨_, _, rfl, h1, h2, h3⟩)
    · exact Or.inr (Or.inr ⟨_, _, _, rfl, h1, h2, h3⟩)
  · exact h.elim
theorem bLd_inv {st : List Vl} {σ : Mem} {k : List Vl → Prop} (h : bLd st σ k) : (∃ i o j r kd0 n, st = vI i :: vR o (j + 1) :: r ∧ (kd0 = 5 ∨ kd0 = 6) ∧ arrK kd0 n o j ∧ (0 ≤ wr i ∧ wr i < n) ∧ k (vI (σ o j (wr i)) :: r)) ∨ ∃ i q r, st = vI i :: vC q :: r ∧ ckind q = 6 ∧ (0 ≤ wr i ∧ wr i < clen q) ∧ k (vI (cval q (wr i)) :: r) := by
  unfold bLd at h
  split at h
  · obtain ⟨kd0, n, h0, h1, h2, h3⟩ := h
    exact Or.inl ⟨_, _, _, _, kd0, n, rfl, h0, h1, h2, h3⟩
  · exact Or.inr ⟨_, _, _, rfl, h.1, h.2.1, h.2.2⟩
  · exact h.elim
theorem aLdR_inv {st : List Vl} {k : List Vl → Prop} (h : aLdR st k) : ∃ i o j r kd0 n, st = vI i :: vR o (j + 1) :: r ∧ (kd0 = 7 ∨ kd0 = 8) ∧ arrK kd0 n o j ∧ (0 ≤ wr i ∧ wr i < n) ∧ k (vR (eltC j (wr i)) 0 :: r) := by
  unfold aLdR at h
  split at h
  · obtain ⟨kd0, n, h0, h1, h2, h3⟩ := h
    exact ⟨_, _, _, _, kd0, n, rfl, h0, h1, h2, h3⟩
  · exact h.elim
theorem iSt_inv {st : List Vl} {σ : Mem} {k : List Vl → Mem → Prop} (h : iSt st σ k) : ∃ x i o j r n, st = vI x :: vI i :: vR o (j + 1) :: r ∧ arrK 3 n o j ∧ (0 ≤ wr i ∧ wr i < n) ∧ k r (updM σ o j (wr i) x) := by
  unfold iSt at h
  split at h
  · obtain ⟨n, h1, h2, h3⟩ := h
    exact ⟨_, _, _, _, _, n, rfl, h1, h2, h3⟩
  · exact h.elim
theorem lSt_inv {st : List Vl} {σ : Mem} {k : List Vl → Mem → Prop} (h : lSt st σ k) : ∃ x i o j r n, st = vL x :: vI i :: vR o (j + 1) :: r ∧ arrK 4 n o j ∧ (0 ≤ wr i ∧ wr i < n) ∧ k r (updM σ o j (wr i) x) := by
  unfold lSt at h
  split at h
  · obtain ⟨n, h1, h2, h3⟩ := h
    exact ⟨_, _, _, _, _, n, rfl, h1, h2, h3⟩
  · exact h.elim
theorem bSt_inv {st : List Vl} {σ : Mem} {k : List Vl → Mem → Prop} (h : bSt st σ k) : ∃ x i o j r kd0 n, st = vI x :: vI i :: vR o (j + 1) :: r ∧ ((kd0 = 5 ∧ (x = 0 ∨ x = 1)) ∨ (kd0 = 6 ∧ -128 ≤ x ∧ x ≤ 127)) ∧ arrK kd0 n o j ∧ (0 ≤ wr i ∧ wr i < n) ∧ k r (updM σ o j (wr i) x) := by
  unfold bSt at h
  split at h
  · obtain ⟨kd0, n, h0, h1, h2, h3⟩ := h
    exact ⟨_, _, _, _, _, kd0, n, rfl, h0, h1, h2, h3⟩
  · exact h.elim
theorem aLen_inv {E : EE} {st : List Vl} {k : List Vl → Prop} (h : aLen E st k) : (∃ o j r kd0 n, st = vR o (j + 1) :: r ∧ (3 ≤ kd0 ∧ kd0 ≤ 8) ∧ arrK kd0 n o j ∧ k (vI (n : Nat) :: r)) ∨ (∃ r, st = vC 7 :: r ∧ 0 < E.2.2.2.2.2.1 ∧ k (vI ((E.2.2.2.2.2.1 : Int) - 1) :: r)) ∨ ∃ q r, st = vC q :: r ∧ (ckind q = 3 ∨ ckind q = 6) ∧ k (vI (clen q) :: r) := by
  unfold aLen at h
  split at h
  · obtain ⟨kd0, n, h0, h1, h3⟩ := h
    exact Or.inl ⟨_, _, _, kd0, n, rfl, h0, h1, h3⟩
  · rcases h with ⟨⟨rfl, h1⟩, h2⟩ | ⟨h1, h2⟩
    · exact Or.inr (Or.inl ⟨_, rfl, h1, h2⟩)
    · exact Or.inr (Or.inr ⟨_, _, rfl, h1, h2⟩)
  · exact h.elim
theorem calV_inv {E : EE} {n : Nat} {st : List Vl} {σ : Mem} {k : List Vl → Mem → Prop} (h : calV E n st σ k) : ∃ (ce : (Nat × (Nat × Nat)) × Cle) (as r : List Vl), (n, ce) ∈ E.2.2.2.2.1 ∧ st = as.reverse ++ r ∧ as.length = ce.1.2.2 ∧ (ce.1.1 = 1 ∧ recvOK ce.1.2.1 as) ∧ (r.map vcat).sum ≤ 8 ∧ ∃ Q : Pst, ce.2 as σ Q ∧ ∀ v u, Q v u → k (v.toList ++ r) u := by
  unfold calV at h
  split at h
  · rename_i ce hce
    obtain ⟨top, r, h1, h2, ⟨h3, h4⟩, Q, h5, h6⟩ := pN_inv _ _ _ h
    rw [List.append_nil] at h4 h5
    exact ⟨ce, top.reverse, r, lkC_mem hce, by rw [List.reverse_reverse]; exact h2, by rw [List.length_reverse]; exact h1, h4, h3, Q, h5, h6⟩
  · exact h.elim
theorem calS_inv {E : EE} {n : Nat} {st : List Vl} {σ : Mem} {k : List Vl → Mem → Prop} (h : calS E n st σ k) : ∃ (ce : (Nat × (Nat × Nat)) × Cle) (as r : List Vl), (n, ce) ∈ E.2.2.2.2.1 ∧ st = as.reverse ++ r ∧ as.length = ce.1.2.2 ∧ ce.1.1 = 0 ∧ (r.map vcat).sum ≤ 8 ∧ ∃ Q : Pst, ce.2 as σ Q ∧ ∀ v u, Q v u → k (v.toList ++ r) u := by
  unfold calS at h
  split at h
  · rename_i ce hce
    obtain ⟨top, r, h1, h2, ⟨h3, h4⟩, Q, h5, h6⟩ := pN_inv _ _ _ h
    rw [List.append_nil] at h5
    exact ⟨ce, top.reverse, r, lkC_mem hce, by rw [List.reverse_reverse]; exact h2, by rw [List.length_reverse]; exact h1, h4, h3, Q, h5, h6⟩
  · exact h.elim
theorem calM_inv {E : EE} {n : Nat} {st : List Vl} {σ : Mem} {k : List Vl → Mem → Prop} (h : calM E n st σ k) : (∃ v x y r, (n, (6, v)) ∈ E.2.2.2.1 ∧ st = vI y :: vI x :: r ∧ (r.map vcat).sum ≤ 8 ∧ k (vI (max (wr x) (wr y)) :: r) σ) ∨ (∃ v x y r, (n, (7, v)) ∈ E.2.2.2.1 ∧ st = vI y :: vI x :: r ∧ (r.map vcat).sum ≤ 8 ∧ k (vI (min (wr x) (wr y)) :: r) σ) ∨ (∃ v x y r, (n, (8, v)) ∈ E.2.2.2.1 ∧ st = vL y :: vL x :: r ∧ (r.map vcat).sum ≤ 8 ∧ k (vL (max (wL x) (wL y)) :: r) σ) ∨ calS E n st σ k := by
  unfold calM at h
  split at h
  · rename_i v hv
    obtain ⟨y, r1, rfl, h1⟩ := pI_inv h
    obtain ⟨x, r, rfl, h2⟩ := pI_inv h1
    exact Or.inl ⟨v, x, y, r, lkK_mem hv, rfl, h2.1, h2.2⟩
  · rename_i v hv
    obtain ⟨y, r1, rfl, h1⟩ := pI_inv h
    obtain ⟨x, r, rfl, h2⟩ := pI_inv h1
    exact Or.inr (Or.inl ⟨v, x, y, r, lkK_mem hv, rfl, h2.1, h2.2⟩)
  · rename_i v hv
    obtain ⟨y, r1, rfl, h1⟩ := pL_inv h
    obtain ⟨x, r, rfl, h2⟩ := pL_inv h1
    exact Or.inr (Or.inr (Or.inl ⟨v, x, y, r, lkK_mem hv, rfl, h2.1, h2.2⟩))
  · exact Or.inr (Or.inr (Or.inr h))
theorem iI_max (x y : Int) : iI (max (wr x) (wr y)) = if iI x < iI y then iI y else iI x := by
  by_cases h : iI x < iI y
  · rw [if_pos h, Int.max_eq_right (Int.le_of_lt ((wr_lt x y).mp h)), iI_wr]
  · rw [if_neg h, Int.max_eq_left (Int.not_lt.mp (fun q => h ((wr_lt x y).mpr q))), iI_wr]
theorem iI_min (x y : Int) : iI (min (wr x) (wr y)) = if iI y < iI x then iI y else iI x := by
  by_cases h : iI y < iI x
  · rw [if_pos h, Int.min_eq_right (Int.le_of_lt ((wr_lt y x).mp h)), iI_wr]
  · rw [if_neg h, Int.min_eq_left (Int.not_lt.mp (fun q => h ((wr_lt y x).mpr q))), iI_wr]
theorem lI_max (x y : Int) : lI (max (wL x) (wL y)) = if lI y < lI x then lI x else lI y := by
  have hw : lI y < lI x ↔ wL y < wL x := by rw [← wL_def, ← wL_def]; exact Int64.lt_iff_toInt_lt
  by_cases h : lI y < lI x
  · rw [if_pos h, Int.max_eq_left (Int.le_of_lt (hw.mp h)), lI_wL]
  · rw [if_neg h, Int.max_eq_right (Int.not_lt.mp (fun q => h (hw.mpr q))), lI_wL]
theorem cat_sum {ad : Nat × Nat → Nat} {kd : Nat → Value} (hk : ∀ q, kd q = .null ∨ ∃ a, kd q = .ref a) (r : List Vl) : ((r.map (vv ad kd)).map fun v => v.category).sum = (r.map vcat).sum := by
  rw [List.map_map]
  congr 1
  exact List.map_congr_left fun q _ => vv_cat hk q
theorem all_good : ∀ w ∈ gtb, goodWord w = true := fun w h => (List.mem_filter.mp h).2
theorem goodIn_all {ws : List Cond} (h : ∀ w ∈ ws, w ∈ gtb) : GoodIn gtb ws := fun w hw => ⟨h w hw, good_of_word (all_good w (h w hw))⟩
theorem KC.same {ad : Nat × Nat → Nat} {kd : Nat → Value} {z : Nat} {s U : State} (hv : U.vm = s.vm) (hh : U.heap = s.heap) (h : KC ad kd z s s.heap) : KC ad kd z U U.heap := by
  have hvm : s.vm.Alike U.vm := by rw [hv]; exact Vm.Alike.refl s.vm
  rw [hh]
  obtain ⟨h1, h2, h3, h4, h5, h6⟩ := h
  refine ⟨h1, fun q hk => ?_, fun q hk => ?_, fun q hk => ?_, fun e he => (h5 e he).moved hvm, fun e he => ?_⟩
  · obtain ⟨t, a, b⟩ := h2 q hk
    exact ⟨t, a, b.moved hvm⟩
  · obtain ⟨t, a, b⟩ := h3 q hk
    exact ⟨t, a, b.moved hvm⟩
  · obtain ⟨t, a, b, c, d⟩ := h4 q hk
    exact ⟨t, a, b.moved hvm, c.moved hvm, d.moved hvm⟩
  · obtain ⟨t, a, b⟩ := h6 e he
    exact ⟨t, a, b.same hv⟩
theorem WD.blind {D : va_G} {ad : Nat × Nat → Nat} {cA : Nat → ClassId} {kd : Nat → Value} {z : Nat} {σ : Mem} {av : List Value} : FrameBlind (va_Pc av (fun U => WD D ad cA kd z σ U)) := by
  intro a U g mk q
  obtain ⟨rfl, hP, hK, hD, hKC⟩ := q
  exact ⟨rfl, hP, va_K.moved (u := U) (U := U.calling g mk _) (Vm.Alike.refl U.vm) hK, hD, KC.same (s := U) rfl rfl hKC⟩
section SI
variable {p : Program} {l : Launch} {e : Env} {R : Room} {s : State} {m : MethodId} {args : Array Value} {below : List Frame} {meth : Method} {c : Code} {cells slots : Nat} {Q : State → Prop}
variable {cc : ByteArray} {D : va_G} {ad : Nat × Nat → Nat} {cA : Nat → ClassId} {kd : Nat → Value} {z : Nat} {own : String} {E : EE} {d0 : Nat} {post : Pst} {P : Nat → List Vl → List Vl → Mem → Prop}
theorem jmp_sound {ls : Array Slot} {env : Lc} {st : List Vl} {σ : Mem} {H : Heap} {locs : List Loc} {t : Nat} (hl : lv_has ls E.1 (lm ad kd env)) (hI : IV D ad cA z s σ H locs)
    (hj : ∀ (t : Nat) (vals st' : List Vl) (σ' : Mem) (ls' : Array Slot) (H' : Heap) (locs' : List Loc) (b : List Nat × List Ent), lkB t E.2.1 = some b → lv_has ls' E.1 (lm ad kd (b.1.zip vals)) → IV D ad cA z s σ' H' locs' → P t vals st' σ' → W p l e R s m args below meth c H' locs' cells slots Q (F0 m t ls' (st'.map (vv ad kd))))
    (h : jmp E P t env st σ) : W p l e R s m args below meth c H locs cells slots Q (F0 m t ls (st.map (vv ad kd))) := by
  unfold jmp at h
  split at h
  · rename_i b hb
    obtain ⟨vals, h1, h2⟩ := coll_inv hl b.1 [] [] [] rfl ⟨hl.1, hl.2.1, fun q hq => by cases hq⟩ h
    exact hj t vals st σ ls H locs b hb h2 hI h1
  · exact h.elim
theorem swt_at {f : Nat → Prop} {x : Int} {pc : Nat} : ∀ (l : List Int) (i : Int) (k : Nat) (off : Int), swt f x pc l i → l[k]? = some off → x = i + k → f ((pc : Int) + off).toNat
  | [], _, _, _, _, h, _ => by simp at h
  | o :: r, i, 0, off, hs, h, hx => by
    simp at h
    subst h
    exact hs.1 (by omega)
  | o :: r, i, k + 1, off, hs, h, hx => by
    have h' : r[k]? = some off := by simpa using h
    exact swt_at r (i + 1) k off hs.2 h' (by omega)
theorem swl_at {f : Nat → Prop} {x : Int} {pc : Nat} {d : Int} : ∀ (l : List (Int × Int)), swl f x pc d l → f ((pc : Int) + Op.lookupswitch.offset l d x).toNat
  | [], h => h
  | q :: r, h => by
    rw [show q :: r = (q.1, q.2) :: r from rfl, Op.lookupswitch.offset_cons]
    by_cases e : x = q.1
    · rw [if_pos e.symm]
      exact h.1 e
    · rw [if_neg (fun z => e z.symm)]
      exact swl_at r (h.2 e)
theorem r_ldcwS {H : Heap} {locs : List Loc} {pc : Nat} {ls : Array Slot} {rest : List Value} (hexec : p.tables.exec = Jvm.exec) (hb : c.code = cc) {tx : String} {index q : Nat} (hown : s.vm.findClass own = some m.cls) (hZ : vk_R own index tx q s) (hdg : decode cc pc = .ok (.ldc_w index, 3))
    (k : W p l e R s m args below meth c H locs cells slots Q (F0 m (pc + 3) ls (.ref q :: rest))) : W p l e R s m args below meth c H locs cells slots Q (F0 m pc ls rest) := by
  intro T hT X
  obtain ⟨t, a1, b1⟩ := k T hT X
  refine ⟨t, ?_, b1⟩
  obtain ⟨k, cf, i, a', hk, hcf, hcp, -, hr, hev'⟩ := Cond.stringRef_spec hown hZ.1
  cases hZ.2.symm.trans hev'
  obtain ⟨k', hk', he⟩ := X.warmed.alike.2.2 _ _ hk
  have hr' : k'.resolved[index]? = some (some (.string q)) := by
    rcases X.warmed.entry hk hk' index with h | ⟨h, -⟩
    · rw [h]; exact hr
    · rw [hr] at h; cases h
  have hdg' : decode c.code pc = .ok (.ldc_w index, 3) := by rw [hb]; exact hdg
  jvm_step X.here [hexec, hdg', ldc_w.wp_string (e := e) (s := T) (f := F0 m pc ls rest) X.here.top hk' (by rw [he]; exact hcf) hcp hr']
  exact a1
theorem pre_of {σ : Mem} {H : Heap} {locs : List Loc} (hC : CX p R s m args c cells slots cc D ad cA kd z own E d0) (hI : IV D ad cA z s σ H locs) {U : State} (hU : U.heap = H) (hW : s.WarmedH U.vm) : WD D ad cA kd z σ U := by
  obtain ⟨-, ⟨hK, hD, hKC⟩, -⟩ := hC
  exact ⟨by rw [hU]; exact hI.1, va_K.moved hW.alike hK, hD, KC.moved hW (fun q h1 h2 => by rw [hU]; exact hI.2.2.1 q h1 h2) hKC⟩
theorem r_calV (hC : CX p R s m args c cells slots cc D ad cA kd z own E d0) {n : Nat} {ce : (Nat × (Nat × Nat)) × Cle} (hc : COK d0 own (n, ce)) {env : Lc} {ls : Array Slot} {σ : Mem} {H : Heap} {locs : List Loc} {as r : List Vl} {pc : Nat} (hl : lv_has ls E.1 (lm ad kd env)) (hI : IV D ad cA z s σ H locs) (hlen : as.length = ce.1.2.2) (h0 : ce.1.1 = 1 ∧ recvOK ce.1.2.1 as) (hW8 : ((r.map (vv ad kd)).map fun v => v.category).sum ≤ 8) {Qp : Pst} (h1 : ce.2 as σ Qp) (hd : decode cc pc = .ok (.invokevirtual n, 3))
    (kk : ∀ (v : Option Vl) (u : Mem) (H1 : Heap) (locs1 : List Loc), Qp v u → IV D ad cA z s u H1 locs1 → W p l e R s m args below meth c H1 locs1 cells slots Q (F0 m (pc + 3) ls ((v.map (vv ad kd)).toList ++ r.map (vv ad kd)))) : W p l e R s m args below meth c H locs cells slots Q (F0 m pc ls ((as.reverse ++ r).map (vv ad kd))) := by
  obtain ⟨⟨hx, hb, hml, hown, hts⟩, ⟨hK, hD, hKC⟩, -, ⟨⟨hR, hd0⟩, hcs⟩, -⟩ := id hC
  obtain ⟨y, b, maxL, ret, d, hM, hdd, hmx, w1, w2, w3, w4, w5 | ⟨w5, w6, w7, w8, w9, w10⟩⟩ := hc
  · exact absurd (w5.1.symm.trans h0.1) (by decide)
  dsimp only at w5 w6 w9 w10
  obtain ⟨hR1, hR2⟩ := hR d hdd
  have rec5 : ∃ (v0 : Vl) (As : List Vl) (b0 : Nat), as = v0 :: As ∧ vv ad kd v0 = .ref b0 ∧ ∃ cellB : Cell, H[b0]? = some cellB ∧ cellB.vm.isStatics = false ∧ s.vm.findClass y.cls = some cellB.cls := by
    have h2 := h0.2
    unfold recvOK at h2
    split at h2
    · rename_i o As
      rcases w10 with ⟨q1, -⟩ | ⟨T, N, q1⟩
      · exfalso
        have : cls o = 100 := by rw [h2, q1]
        rcases Nat.lt_or_ge o clsL.length with q | q
        · have h9 : ∀ o, o < clsL.length → cls o < 99 := by decide +kernel
          have := h9 o q
          omega
        · have : cls o = 99 := by unfold cls; rw [List.getD_eq_getElem?_getD, List.getElem?_eq_none q]; rfl
          omega
      · have hlt := vwCl_lt q1
        obtain ⟨q0, -, hq⟩ := wl_at ad cA σ (dom_obj o (cls_lt rfl (by omega)))
        exact ⟨_, As, _, rfl, rfl, va_recv hK hI.1 (ci := cls o) (by rw [h2]; exact q1) hq⟩
    · rename_i q As
      obtain ⟨a5, e5, e6, -⟩ := hKC.2.2.2.1 q h2.1
      rcases w10 with ⟨q1, q2⟩ | ⟨T, N, q1⟩
      · obtain ⟨cell, g1, g2, g3, -⟩ := e6.kept hI.2.2.1
        exact ⟨_, As, a5, rfl, e5, cell, g1, g2, by rw [q2]; exact g3⟩
      · exfalso
        have := vwCl_lt q1
        omega
    · exact h2.elim
  obtain ⟨v0, As, b0, rfl, e0, hrec⟩ := rec5
  have e1 : ((v0 :: As).reverse ++ r).map (vv ad kd) = (As.map (vv ad kd)).reverse ++ .ref b0 :: r.map (vv ad kd) := by
    rw [List.reverse_cons, List.map_append, List.map_append, List.map_reverse, List.append_assoc, ← e0]
    rfl
  rw [e1]
  have e2 : (v0 :: As).map (vv ad kd) = .ref b0 :: As.map (vv ad kd) := by rw [List.map_cons, e0]
  have hMM := hM l D ad cA kd z _ σ Qp h1
  rw [e2] at hMM
  refine callX (va_runV (As := As.map (vv ad kd)) (rest := r.map (vv ad kd)) (n := ce.1.2.2 - 1) ⟨hx, hb, hml, hown, hts⟩ hMM (cwV (C := y.cls) (ret := ret) (maxL := maxL) (bytes := b) (ce.1.2.2 - 1) hts (goodIn_all (fun w hw => ?_)) rfl rfl rfl ⟨rfl, w4.1, w4.2, w9⟩ ⟨hR1, by show 8 + (maxL + 11) + 40 * d ≤ _; omega⟩) ⟨WD.blind, hrec, fun U hU hW => ⟨rfl, pre_of hC hI hU hW⟩⟩ rfl (by rw [List.length_map]; rw [List.length_cons] at hlen; omega) hl.1 rfl (lv_room hW8) hd ⟨hcs.1, hcs.2⟩) hI.2 (fun _ q => q) kk
  unfold wsV at hw
  rcases List.mem_append.mp hw with q | q
  · simp only [List.mem_cons, List.not_mem_nil, or_false] at q
    rcases q with rfl | rfl | rfl | rfl
    · exact w2
    · exact w7
    · exact w8
    · exact w3
  · rcases List.mem_cons.mp q with rfl | q
    · exact w1
    · exact q
theorem r_calS (hC : CX p R s m args c cells slots cc D ad cA kd z own E d0) {n : Nat} {ce : (Nat × (Nat × Nat)) × Cle} (hc : COK d0 own (n, ce)) {env : Lc} {ls : Array Slot} {σ : Mem} {H : Heap} {locs : List Loc} {as r : List Vl} {pc : Nat} (hl : lv_has ls E.1 (lm ad kd env)) (hI : IV D ad cA z s σ H locs) (hlen : as.length = ce.1.2.2) (h0 : ce.1.1 = 0) (hW8 : ((r.map (vv ad kd)).map fun v => v.category).sum ≤ 8) {Qp : Pst} (h1 : ce.2 as σ Qp) (hd : decode cc pc = .ok (.invokestatic n, 3))
    (kk : ∀ (v : Option Vl) (u : Mem) (H1 : Heap) (locs1 : List Loc), Qp v u → IV D ad cA z s u H1 locs1 → W p l e R s m args below meth c H1 locs1 cells slots Q (F0 m (pc + 3) ls ((v.map (vv ad kd)).toList ++ r.map (vv ad kd)))) : W p l e R s m args below meth c H locs cells slots Q (F0 m pc ls ((as.reverse ++ r).map (vv ad kd))) := by
  obtain ⟨⟨hx, hb, hml, hown, hts⟩, ⟨hK, hD, hKC⟩, -, ⟨⟨hR, hd0⟩, hcs⟩, -⟩ := id hC
  obtain ⟨y, b, maxL, ret, d, hM, hdd, hmx, w1, w2, w3, w4, ⟨w5, w6, w9⟩ | w5⟩ := hc
  case inr => exact absurd (h0.symm.trans w5.1) (by decide)
  dsimp only at w9
  obtain ⟨hR1, hR2⟩ := hR d hdd
  have e1 : (as.reverse ++ r).map (vv ad kd) = (as.map (vv ad kd)).reverse ++ r.map (vv ad kd) := by
    rw [List.map_append, List.map_reverse]
  rw [e1]
  refine callX (va_runS (As := as.map (vv ad kd)) (rest := r.map (vv ad kd)) (n := ce.1.2.2) ⟨hx, hb, hml, hown, hts⟩ (hM l D ad cA kd z _ σ Qp h1) (va_cwS (ret := ret) (maxL := maxL) (bytes := b) ce.1.2.2 hts (goodIn_all (fun w hw => ?_)) rfl rfl rfl ⟨w4.1, w4.2, w9⟩ ⟨hR1, by show 8 + (maxL + 11) + 40 * d ≤ _; omega⟩) ⟨WD.blind, fun U hU hW => ⟨rfl, pre_of hC hI hU hW⟩⟩ rfl (by rw [List.length_map]; exact hlen) hl.1 rfl (lv_room hW8) hd ⟨hcs.1, hcs.2⟩) hI.2 (fun _ q => q) kk
  unfold va_wsS at hw
  rcases List.mem_append.mp hw with q | q
  · simp only [List.mem_cons, List.not_mem_nil, or_false] at q
    rcases q with rfl | rfl | rfl
    · exact w2
    · exact w6
    · exact w3
  · rcases List.mem_cons.mp q with rfl | q
    · exact w1
    · exact q
set_option maxHeartbeats 4000000 in
theorem ins_sound (hC : CX p R s m args c cells slots cc D ad cA kd z own E d0) {en : Ent} (hok : entOK cc en = true)
    {k : Lc → List Vl → Mem → Prop} {ls : Array Slot} {env : Lc} {st : List Vl} {σ : Mem} {H : Heap} {locs : List Loc}
    (hl : lv_has ls E.1 (lm ad kd env)) (hI : IV D ad cA z s σ H locs)
    (hk : ∀ (env' : Lc) (st' : List Vl) (σ' : Mem) (ls' : Array Slot) (H' : Heap) (locs' : List Loc), lv_has ls' E.1 (lm ad kd env') → IV D ad cA z s σ' H' locs' → k env' st' σ' → W p l e R s m args below meth c H' locs' cells slots Q (F0 m (en.1 + en.2.2.1) ls' (st'.map (vv ad kd))))
    (hj : ∀ (t : Nat) (vals st' : List Vl) (σ' : Mem) (ls' : Array Slot) (H' : Heap) (locs' : List Loc) (b : List Nat × List Ent), lkB t E.2.1 = some b → lv_has ls' E.1 (lm ad kd (b.1.zip vals)) → IV D ad cA z s σ' H' locs' → P t vals st' σ' → W p l e R s m args below meth c H' locs' cells slots Q (F0 m t ls' (st'.map (vv ad kd))))
    (hr : ∀ (v : Option Vl) (ins : Instr) (pc : Nat) (σ' : Mem) (ls' : Array Slot) (H' : Heap) (locs' : List Loc), ((ins = .ireturn ∧ ∃ x, v = some (vI x)) ∨ (ins = .lreturn ∧ ∃ x, v = some (vL x)) ∨ (ins = .areturn ∧ ∃ q, v = some (vC q)) ∨ (ins = .return_ ∧ v = none)) → decode cc pc = .ok (ins, 1) → IV D ad cA z s σ' H' locs' → post v σ' → W p l e R s m args below meth c H' locs' cells slots Q (F0 m pc ls' ((v.map (vv ad kd)).toList)))
    (h : ins1 E post P en env st σ k) : W p l e R s m args below meth c H locs cells slots Q (F0 m en.1 ls (st.map (vv ad kd))) := by
  obtain ⟨pc, ins, len, a, t⟩ := en
  obtain ⟨⟨hx, hb, hml, hown, hts⟩, ⟨hK, hD, hKC⟩, ⟨hF, hKK, hCC⟩, ⟨⟨hR, hd0⟩, hcs⟩, hX⟩ := id hC
  obtain ⟨hP, hS⟩ := id hI
  have hkd := hKC.1.1
  unfold entOK at hok
  dsimp only at hok
  rw [Bool.and_eq_true, decide_eq_true_eq] at hok
  obtain ⟨hd, him⟩ := hok
  dsimp only at hd him hk ⊢
  have hJ : ∀ {st' : List Vl}, jmp E P t env st' σ → W p l e R s m args below meth c H locs cells slots Q (F0 m t ls (st'.map (vv ad kd))) := fun h => jmp_sound hl hI hj h
  cases ins
  case iconst i =>
    simp only [immOK, Bool.and_eq_true, beq_iff_eq, decide_eq_true_eq] at him
    obtain ⟨rfl, h2⟩ := him
    exact lv_iconst hx hb hd h2 (hk env _ σ ls H locs hl hI h)
  case bipush i =>
    simp only [immOK, Bool.and_eq_true, beq_iff_eq, decide_eq_true_eq] at him
    obtain ⟨rfl, h2⟩ := him
    exact lv_bipush hx hb hd h2 (hk env _ σ ls H locs hl hI h)
  case sipush i =>
    simp only [immOK, Bool.and_eq_true, beq_iff_eq, decide_eq_true_eq] at him
    obtain ⟨rfl, h2⟩ := him
    exact lv_sipush hx hb hd h2 (hk env _ σ ls H locs hl hI h)
  case lconst i =>
    simp only [immOK, Bool.and_eq_true, beq_iff_eq, decide_eq_true_eq] at him
    obtain ⟨rfl, h2⟩ := him
    exact lv_lconst hx hb hd h2 (hk env _ σ ls H locs hl hI h)
  case ldc n =>
    simp only [immOK, beq_iff_eq] at him
    subst him
    rcases h with h | h
    · obtain ⟨v, h1, h2⟩ := ldK_inv (k := fun v => k env (v :: st) σ) h
      obtain ⟨x, e5, hm⟩ := hKK _ h1
      dsimp only at e5
      subst e5
      exact lv_ldc hx hb hown (hts _ hm) hd (hk env _ σ ls H locs hl hI h2)
    · obtain ⟨v, h1, h2⟩ := ldK_inv (k := fun v => k env (v :: st) σ) h
      obtain ⟨tx, q, rfl, hm⟩ := hKK _ h1
      obtain ⟨a5, e5, e6⟩ := hKC.2.2.2.2.2 _ hm
      have e7 : vv ad kd (vC q) = .ref a5 := e5
      have h5 := hk env _ σ ls H locs hl hI h2
      rw [List.map_cons, e7] at h5
      exact va_ldcS hx hb hown e6 hd h5
  case ldc_w n =>
    simp only [immOK, beq_iff_eq] at him
    subst him
    rcases h with h | h
    · obtain ⟨v, h1, h2⟩ := ldK_inv (k := fun v => k env (v :: st) σ) h
      obtain ⟨x, e5, hm⟩ := hKK _ h1
      dsimp only at e5
      subst e5
      exact lv_ldcw hx hb hown (hts _ hm) hd (hk env _ σ ls H locs hl hI h2)
    · obtain ⟨v, h1, h2⟩ := ldK_inv (k := fun v => k env (v :: st) σ) h
      obtain ⟨tx, q, rfl, hm⟩ := hKK _ h1
      obtain ⟨a5, e5, e6⟩ := hKC.2.2.2.2.2 _ hm
      have e7 : vv ad kd (vC q) = .ref a5 := e5
      have h5 := hk env _ σ ls H locs hl hI h2
      rw [List.map_cons, e7] at h5
      exact r_ldcwS hx hb hown e6 hd h5
  case ldc2_w n =>
    simp only [immOK, beq_iff_eq] at him
    subst him
    obtain ⟨v, h1, h2⟩ := ldK_inv (k := fun v => k env (v :: st) σ) h
    obtain ⟨x, e5, hm⟩ := hKK _ h1
    dsimp only at e5
    subst e5
    exact lv_ldc2 hx hb hown (hts _ hm) hd (hk env _ σ ls H locs hl hI h2)
  case getstatic n =>
    simp only [immOK, beq_iff_eq] at him
    subst him
    obtain ⟨v, h1, h2⟩ := ldK_inv (k := fun v => k env (v :: st) σ) h
    obtain ⟨C, nn, dd, hm, hlk⟩ := hKK _ h1
    exact va_gets hx hb (hKC.2.2.2.2.1 _ hm) hS hown (hts _ hlk) (fun _ q => q) hd (hk env _ σ ls H locs hl hI h2)
  case iload n =>
    simp only [immOK, beq_iff_eq] at him
    subst him
    obtain ⟨x, h1, h2⟩ := gI_inv h
    exact lv_iload hx hb hd (lget_at hl h1) (hk env _ σ ls H locs hl hI h2)
  case iload_n n =>
    simp only [immOK, beq_iff_eq] at him
    subst him
    obtain ⟨x, h1, h2⟩ := gI_inv h
    exact lv_iload_n hx hb hd rfl (lget_at hl h1) (hk env _ σ ls H locs hl hI h2)
  case lload n =>
    simp only [immOK, beq_iff_eq] at him
    subst him
    obtain ⟨x, h1, h2⟩ := gL_inv h
    exact lv_lload hx hb hd (lget_at hl h1) (hk env _ σ ls H locs hl hI h2)
  case lload_n n =>
    simp only [immOK, beq_iff_eq] at him
    subst him
    obtain ⟨x, h1, h2⟩ := gL_inv h
    exact lv_lload_n hx hb hd rfl (lget_at hl h1) (hk env _ σ ls H locs hl hI h2)
  case aload n =>
    simp only [immOK, beq_iff_eq] at him
    subst him
    obtain ⟨v, h1, h2, h3⟩ := gA_inv (k := fun v => k env (v :: st) σ) h
    have h4 := lget_at hl h1
    have h5 := hk env _ σ ls H locs hl hI h2
    rcases h3 with ⟨d, rfl⟩ | ⟨q, rfl, hq⟩
    · exact lv_aload hx hb hd h4 h5
    · obtain ⟨a5, e5⟩ := hKC.1.2 q hq
      have e6 : vv ad kd (vC q) = .ref a5 := e5
      rw [e6] at h4
      rw [List.map_cons, e6] at h5
      exact lv_aload hx hb hd h4 h5
  case aload_n n =>
    simp only [immOK, beq_iff_eq] at him
    subst him
    obtain ⟨v, h1, h2, h3⟩ := gA_inv (k := fun v => k env (v :: st) σ) h
    have h4 := lget_at hl h1
    have h5 := hk env _ σ ls H locs hl hI h2
    rcases h3 with ⟨d, rfl⟩ | ⟨q, rfl, hq⟩
    · exact lv_aload_n hx hb hd rfl h4 h5
    · obtain ⟨a5, e5⟩ := hKC.1.2 q hq
      have e6 : vv ad kd (vC q) = .ref a5 := e5
      rw [e6] at h4
      rw [List.map_cons, e6] at h5
      exact lv_aload_n hx hb hd rfl h4 h5
  case istore n =>
    simp only [immOK, beq_iff_eq] at him
    subst him
    obtain ⟨x, r, rfl, h1, h2⟩ := pI_inv h
    exact lv_istore hx hb hd hl h1 (lm_set1 hkd env n (vI x)) (fun ls' hl' => hk _ _ σ ls' H locs hl' hI h2)
  case istore_n n =>
    simp only [immOK, beq_iff_eq] at him
    subst him
    obtain ⟨x, r, rfl, h1, h2⟩ := pI_inv h
    exact lv_istore_n hx hb hd rfl hl h1 (lm_set1 hkd env n (vI x)) (fun ls' hl' => hk _ _ σ ls' H locs hl' hI h2)
  case lstore n =>
    simp only [immOK, beq_iff_eq] at him
    subst him
    obtain ⟨x, r, rfl, h1, h2⟩ := pL_inv h
    exact lv_lstore hx hb hd hl h1 (lm_set2 hkd env n (vL x)) (fun ls' hl' => hk _ _ σ ls' H locs hl' hI h2)
  case lstore_n n =>
    simp only [immOK, beq_iff_eq] at him
    subst him
    obtain ⟨x, r, rfl, h1, h2⟩ := pL_inv h
    exact lv_lstore_n hx hb hd rfl hl h1 (lm_set2 hkd env n (vL x)) (fun ls' hl' => hk _ _ σ ls' H locs hl' hI h2)
  case astore n =>
    simp only [immOK, beq_iff_eq] at him
    subst him
    obtain ⟨v, r, rfl, ⟨h1, h3⟩, h2⟩ := pV_inv h
    split at h3
    · rename_i d
      exact lv_astore hx hb hd hl h1 (lm_set1 hkd env n (.inr (.inr (.inl (some d))))) (fun ls' hl' => hk _ _ σ ls' H locs hl' hI h2)
    · exact h3.elim
  case astore_n n =>
    simp only [immOK, beq_iff_eq] at him
    subst him
    obtain ⟨v, r, rfl, ⟨h1, h3⟩, h2⟩ := pV_inv h
    split at h3
    · rename_i d
      exact lv_astore_n hx hb hd rfl hl h1 (lm_set1 hkd env n (.inr (.inr (.inl (some d))))) (fun ls' hl' => hk _ _ σ ls' H locs hl' hI h2)
    · exact h3.elim
  case iinc n i =>
    simp only [immOK, Bool.and_eq_true, beq_iff_eq, decide_eq_true_eq] at him
    obtain ⟨rfl, h0⟩ := him
    obtain ⟨x, h1, h2, h3⟩ := gI_inv h
    obtain ⟨k5, hk5⟩ : ∃ k5, (lm ad kd env)[k5]? = some (n, Value.int (iI x)) := by
      have hm : (n, vI x) ∈ env := lget_mem h1
      exact List.getElem?_of_mem (List.mem_map.mpr ⟨(n, vI x), hm, rfl⟩)
    exact lv_iinc hx hb hd hl hk5 (v := iI (x + a)) (by rw [iI_add, h0]) h2 (lm_set1 hkd env n (vI (x + a))) (fun ls' hl' => hk _ _ σ ls' H locs hl' hI h3)
  case iadd =>
    simp only [immOK, beq_iff_eq] at him
    subst him
    obtain ⟨y, r, rfl, h⟩ := pI_inv h
    obtain ⟨x, r, rfl, h⟩ := pI_inv h
    have h1 := hk env _ σ ls H locs hl hI h
    refine lv_iadd hx hb hd ?_
    rw [← iI_add]
    exact h1
  case isub =>
    simp only [immOK, beq_iff_eq] at him
    subst him
    obtain ⟨y, r, rfl, h⟩ := pI_inv h
    obtain ⟨x, r, rfl, h⟩ := pI_inv h
    have h1 := hk env _ σ ls H locs hl hI h
    refine lv_isub hx hb hd ?_
    rw [← iI_sub]
    exact h1
  case imul =>
    simp only [immOK, beq_iff_eq] at him
    subst him
    obtain ⟨y, r, rfl, h⟩ := pI_inv h
    obtain ⟨x, r, rfl, h⟩ := pI_inv h
    have h1 := hk env _ σ ls H locs hl hI h
    refine lv_imul hx hb hd ?_
    rw [← iI_mul]
    exact h1
  case idiv =>
    simp only [immOK, beq_iff_eq] at him
    subst him
    obtain ⟨y, r, rfl, h⟩ := pI_inv h
    obtain ⟨x, r, rfl, h0, h⟩ := pI_inv h
    have h1 := hk env _ σ ls H locs hl hI h
    refine lv_idiv hx hb hd (fun q => h0 ((wr_eq0 _).mp q)) ?_
    rw [← iI_toInt (iI x / iI y)]
    exact h1
  case irem =>
    simp only [immOK, beq_iff_eq] at him
    subst him
    obtain ⟨y, r, rfl, h⟩ := pI_inv h
    obtain ⟨x, r, rfl, h0, h⟩ := pI_inv h
    have h1 := hk env _ σ ls H locs hl hI h
    refine lv_irem hx hb hd (fun q => h0 ((wr_eq0 _).mp q)) ?_
    rw [← iI_toInt (iI x - iI x / iI y * iI y)]
    exact h1
  case iand =>
    simp only [immOK, beq_iff_eq] at him
    subst him
    obtain ⟨y, r, rfl, h⟩ := pI_inv h
    obtain ⟨x, r, rfl, h⟩ := pI_inv h
    have h1 := hk env _ σ ls H locs hl hI h
    refine lv_iand hx hb hd ?_
    rw [← iI_toInt (iI x &&& iI y)]
    exact h1
  case ior =>
    simp only [immOK, beq_iff_eq] at him
    subst him
    obtain ⟨y, r, rfl, h⟩ := pI_inv h
    obtain ⟨x, r, rfl, h⟩ := pI_inv h
    have h1 := hk env _ σ ls H locs hl hI h
    refine lv_ior hx hb hd ?_
    rw [← iI_toInt (iI x ||| iI y)]
    exact h1
  case ixor =>
    simp only [immOK, beq_iff_eq] at him
    subst him
    obtain ⟨y, r, rfl, h⟩ := pI_inv h
    obtain ⟨x, r, rfl, h⟩ := pI_inv h
    have h1 := hk env _ σ ls H locs hl hI h
    refine lv_ixor hx hb hd ?_
    rw [← iI_toInt (iI x ^^^ iI y)]
    exact h1
  case ishl =>
    simp only [immOK, beq_iff_eq] at him
    subst him
    obtain ⟨y, r, rfl, h⟩ := pI_inv h
    obtain ⟨x, r, rfl, h⟩ := pI_inv h
    have h1 := hk env _ σ ls H locs hl hI h
    refine lv_ishl hx hb hd ?_
    rw [← iI_toInt (iI x <<< (iI y &&& 31))]
    exact h1
  case ishr =>
    simp only [immOK, beq_iff_eq] at him
    subst him
    obtain ⟨y, r, rfl, h⟩ := pI_inv h
    obtain ⟨x, r, rfl, h⟩ := pI_inv h
    have h1 := hk env _ σ ls H locs hl hI h
    refine lv_ishr hx hb hd ?_
    rw [← iI_toInt (iI x >>> (iI y &&& 31))]
    exact h1
  case land =>
    simp only [immOK, beq_iff_eq] at him
    subst him
    obtain ⟨y, r, rfl, h⟩ := pL_inv h
    obtain ⟨x, r, rfl, h⟩ := pL_inv h
    have h1 := hk env _ σ ls H locs hl hI h
    refine lv_land hx hb hd ?_
    rw [← lI_toInt (lI x &&& lI y)]
    exact h1
  case lor =>
    simp only [immOK, beq_iff_eq] at him
    subst him
    obtain ⟨y, r, rfl, h⟩ := pL_inv h
    obtain ⟨x, r, rfl, h⟩ := pL_inv h
    have h1 := hk env _ σ ls H locs hl hI h
    refine lv_lor hx hb hd ?_
    rw [← lI_toInt (lI x ||| lI y)]
    exact h1
  case iushr =>
    simp only [immOK, beq_iff_eq] at him
    subst him
    obtain ⟨y, r, rfl, h⟩ := pI_inv h
    obtain ⟨x, r, rfl, h⟩ := pI_inv h
    exact lv_iushr hx hb hd (iI_toInt _).symm (hk env _ σ ls H locs hl hI h)
  case ladd =>
    simp only [immOK, beq_iff_eq] at him
    subst him
    obtain ⟨y, r, rfl, h⟩ := pL_inv h
    obtain ⟨x, r, rfl, h⟩ := pL_inv h
    have h1 := hk env _ σ ls H locs hl hI h
    refine lv_ladd hx hb hd ?_
    rw [← lI_add]
    exact h1
  case lsub =>
    simp only [immOK, beq_iff_eq] at him
    subst him
    obtain ⟨y, r, rfl, h⟩ := pL_inv h
    obtain ⟨x, r, rfl, h⟩ := pL_inv h
    have h1 := hk env _ σ ls H locs hl hI h
    refine lv_lsub hx hb hd ?_
    rw [← lI_sub]
    exact h1
  case lmul =>
    simp only [immOK, beq_iff_eq] at him
    subst him
    obtain ⟨y, r, rfl, h⟩ := pL_inv h
    obtain ⟨x, r, rfl, h⟩ := pL_inv h
    have h1 := hk env _ σ ls H locs hl hI h
    refine lv_lmul hx hb hd ?_
    rw [← lI_mul]
    exact h1
  case ldiv =>
    simp only [immOK, beq_iff_eq] at him
    subst him
    obtain ⟨y, r, rfl, h⟩ := pL_inv h
    obtain ⟨x, r, rfl, h0, h⟩ := pL_inv h
    have h1 := hk env _ σ ls H locs hl hI h
    refine lv_ldiv hx hb hd (fun q => h0 ((wL_eq0 _).mp q)) ?_
    rw [← lI_toInt (lI x / lI y)]
    exact h1
  case lrem =>
    simp only [immOK, beq_iff_eq] at him
    subst him
    obtain ⟨y, r, rfl, h⟩ := pL_inv h
    obtain ⟨x, r, rfl, h0, h⟩ := pL_inv h
    have h1 := hk env _ σ ls H locs hl hI h
    refine lv_lrem hx hb hd (fun q => h0 ((wL_eq0 _).mp q)) ?_
    rw [← lI_toInt (lI x - lI x / lI y * lI y)]
    exact h1
  case lcmp =>
    simp only [immOK, beq_iff_eq] at him
    subst him
    obtain ⟨y, r, rfl, h⟩ := pL_inv h
    obtain ⟨x, r, rfl, h⟩ := pL_inv h
    have h1 := hk env _ σ ls H locs hl hI h
    refine W.lcmp hx hb hd ?_
    rw [← iI_toInt (lg_cmp (lI x) (lI y))]
    exact h1
  case i2l =>
    simp only [immOK, beq_iff_eq] at him
    subst him
    obtain ⟨x, r, rfl, h⟩ := pI_inv h
    exact lv_i2l hx hb hd (lI_wr x).symm (hk env _ σ ls H locs hl hI h)
  case l2i =>
    simp only [immOK, beq_iff_eq] at him
    subst him
    obtain ⟨x, r, rfl, h⟩ := pL_inv h
    exact lv_l2i hx hb hd (iI_l x) (hk env _ σ ls H locs hl hI h)
  case i2b =>
    simp only [immOK, beq_iff_eq] at him
    subst him
    obtain ⟨x, r, rfl, h⟩ := pI_inv h
    exact lv_i2b hx hb hd (iI_toInt _).symm (hk env _ σ ls H locs hl hI h)
  case i2c =>
    simp only [immOK, beq_iff_eq] at him
    subst him
    obtain ⟨x, r, rfl, h⟩ := pI_inv h
    exact lv_i2c hx hb hd (iI_toInt _).symm (hk env _ σ ls H locs hl hI h)
  case dup =>
    simp only [immOK, beq_iff_eq] at him
    subst him
    obtain ⟨v, r, rfl, h0, h⟩ := pV_inv h
    exact lv_dup hx hb hd (by rw [vv_cat hkd]; exact h0) (hk env _ σ ls H locs hl hI h)
  case pop =>
    simp only [immOK, beq_iff_eq] at him
    subst him
    obtain ⟨v, r, rfl, h0, h⟩ := pV_inv h
    exact lv_pop hx hb hd (by rw [vv_cat hkd]; exact h0) (hk env _ σ ls H locs hl hI h)
  case dup2 =>
    simp only [immOK, beq_iff_eq] at him
    subst him
    rcases dup2_inv (k := fun st => k env st σ) h with ⟨x, r, rfl, h1⟩ | ⟨x, y, r, rfl, h0, h1⟩
    · exact lv_dup2_2 hx hb hd rfl (hk env _ σ ls H locs hl hI h1)
    · exact lv_dup2_11 hx hb hd (by rw [vv_cat hkd]; exact h0.1) (by rw [vv_cat hkd]; exact h0.2) (hk env _ σ ls H locs hl hI h1)
  case ifCond cnd off =>
    simp only [immOK, Bool.and_eq_true, beq_iff_eq, decide_eq_true_eq] at him
    obtain ⟨rfl, h0⟩ := him
    obtain ⟨x, r, rfl, h1, h2⟩ := pI_inv h
    have hF' := fun q => hk env r σ ls H locs hl hI (h2 q)
    have hT' := fun q => hJ (h1 q)
    cases cnd
    · exact lv_if_eq hx hb hd h0 (fun q => hT' ((wr_eq0 x).mp q)) (fun q => hF' (fun w => q ((wr_eq0 x).mpr w)))
    · exact lv_if_ne hx hb hd h0 (fun q => hT' (fun w => q ((wr_eq0 x).mpr w))) (fun q => hF' (fun w => w ((wr_eq0 x).mp q)))
    · exact lv_if_lt hx hb hd h0 (fun q => hT' ((wr_lt0 x).mp q)) (fun q => hF' (fun w => q ((wr_lt0 x).mpr w)))
    · exact lv_if_ge hx hb hd h0 (fun q => hT' ((wr_ge0 x).mp q)) (fun q => hF' (fun w => q ((wr_ge0 x).mpr w)))
    · exact lv_if_gt hx hb hd h0 (fun q => hT' ((wr_gt0 x).mp q)) (fun q => hF' (fun w => q ((wr_gt0 x).mpr w)))
    · exact lv_if_le hx hb hd h0 (fun q => hT' ((wr_le0 x).mp q)) (fun q => hF' (fun w => q ((wr_le0 x).mpr w)))
  case if_icmp cnd off =>
    simp only [immOK, Bool.and_eq_true, beq_iff_eq, decide_eq_true_eq] at him
    obtain ⟨rfl, h0⟩ := him
    obtain ⟨y, r, rfl, h⟩ := pI_inv h
    obtain ⟨x, r, rfl, h1, h2⟩ := pI_inv h
    have hF' := fun q => hk env r σ ls H locs hl hI (h2 q)
    have hT' := fun q => hJ (h1 q)
    cases cnd
    · exact lv_icmp_eq hx hb hd h0 (fun q => hT' ((wr_eq x y).mp q)) (fun q => hF' (fun w => q ((wr_eq x y).mpr w)))
    · exact lv_icmp_ne hx hb hd h0 (fun q => hT' (fun w => q ((wr_eq x y).mpr w))) (fun q => hF' (fun w => w ((wr_eq x y).mp q)))
    · exact lv_icmp_lt hx hb hd h0 (fun q => hT' ((wr_lt x y).mp q)) (fun q => hF' (fun w => q ((wr_lt x y).mpr w)))
    · exact lv_icmp_ge hx hb hd h0 (fun q => hT' ((wr_le y x).mp q)) (fun q => hF' (fun w => q ((wr_le y x).mpr w)))
    · exact lv_icmp_gt hx hb hd h0 (fun q => hT' ((wr_lt y x).mp q)) (fun q => hF' (fun w => q ((wr_lt y x).mpr w)))
    · exact lv_icmp_le hx hb hd h0 (fun q => hT' ((wr_le x y).mp q)) (fun q => hF' (fun w => q ((wr_le x y).mpr w)))
  case goto off =>
    simp only [immOK, Bool.and_eq_true, beq_iff_eq, decide_eq_true_eq] at him
    obtain ⟨rfl, h0⟩ := him
    exact lv_goto hx hb hd h0 (hJ h)
  case tableswitch d lo hi offs =>
    simp only [immOK, Bool.and_eq_true, decide_eq_true_eq, List.all_eq_true] at him
    obtain ⟨⟨h0, h1⟩, h2⟩ := him
    obtain ⟨x, r, rfl, h3, h4⟩ := pI_inv h
    by_cases q : wr x < lo ∨ hi < wr x
    · exact lv_tableOut hx hb hd (by rw [wr_def]; exact q) (Int.toNat_of_nonneg h0).symm (jmp_sound hl hI hj (h4 q))
    · have q1 : ¬ wr x < lo := fun w => q (Or.inl w)
      have q2 : ¬ hi < wr x := fun w => q (Or.inr w)
      have hlt : (wr x - lo).toNat < offs.toList.length := by omega
      have ho : offs.toList[(wr x - lo).toNat]? = some offs.toList[(wr x - lo).toNat] := List.getElem?_eq_getElem hlt
      have hp := h1 _ (List.getElem_mem hlt)
      refine lv_tableIn hx hb hd (by rw [wr_def]; exact q1) (by rw [wr_def]; exact q2) (off := offs.toList[(wr x - lo).toNat]) (by rw [wr_def, ← Array.getElem?_toList]; exact ho) (Int.toNat_of_nonneg hp).symm (jmp_sound hl hI hj ?_)
      exact swt_at _ _ _ _ h3 ho (by omega)
  case lookupswitch d ps =>
    simp only [immOK, Bool.and_eq_true, decide_eq_true_eq] at him
    obtain ⟨⟨h0, h1⟩, h2⟩ := him
    obtain ⟨x, r, rfl, h3⟩ := pI_inv h
    have h4 := swl_at ps.toList h3
    have h5 := swl_nn (pc := pc) (d := d) (x := wr x) h0 ps.toList (fun q hq => of_decide_eq_true (List.all_eq_true.mp h1 q hq))
    exact lv_lookup hx hb hd h2 (off := Op.lookupswitch.offset ps.toList d (wr x)) (by rw [wr_def]) (Int.toNat_of_nonneg h5).symm (jmp_sound hl hI hj h4)
  case getfield n =>
    simp only [immOK, beq_iff_eq] at him
    subst him
    rcases getF_inv (k := fun st => k env st σ) h with ⟨f, o, r, hf, rfl, h1, h2⟩ | ⟨v, q, r, hf, rfl, h1, h2⟩ | ⟨v, q, r, hf, rfl, h1, h2⟩
    · exact r_get hx hb hts hown hK hP (hF _ hf) h1 hd (hk env _ σ ls H locs hl hI h2)
    · obtain ⟨a5, e5, e6, e7, e8⟩ := hKC.2.2.2.1 q h1
      have e9 : (vC q :: r).map (vv ad kd) = .ref a5 :: r.map (vv ad kd) := by rw [List.map_cons, ← e5]; rfl
      rw [e9]
      exact vk_getf hx hb e7 hS hown (hts _ (hKK _ hf)) (fun _ q => q) hd (hk env _ σ ls H locs hl hI h2)
    · obtain ⟨a5, e5, e6, e7, e8⟩ := hKC.2.2.2.1 q h1
      have e9 : (vC q :: r).map (vv ad kd) = .ref a5 :: r.map (vv ad kd) := by rw [List.map_cons, ← e5]; rfl
      rw [e9]
      exact vk_getf hx hb e8 hS hown (hts _ (hKK _ hf)) (fun _ q => q) hd (hk env _ σ ls H locs hl hI h2)
  case putfield n =>
    simp only [immOK, beq_iff_eq] at him
    subst him
    rcases putF_inv (k := fun st σ => k env st σ) h with ⟨f, x, o, r, hf, rfl, h1, h2, h3⟩ | ⟨f, x, o, r, hf, rfl, h1, h2, h3⟩
    · obtain ⟨ci, j⟩ := f
      dsimp only at h1
      subst h1
      rcases h2 with h2 | ⟨h2, h4⟩
      · exact r_put hx hb hts hown hK hD hP hS (hF _ hf) rfl (ty := .int) (v := .int (iI x)) (by rw [h2]; decide) (by unfold fieldV; dsimp only at h2 ⊢; simp only [h2, upd_same]) (fun d fin q => by unfold kindOK at q; rw [h2] at q; simp at q; exact ⟨by rw [q.1]; decide +kernel, q.2⟩) rfl rfl hd (fun H1 locs1 a1 a2 => hk env _ _ ls H1 locs1 hl ⟨a1, a2⟩ h3)
      · exact r_put hx hb hts hown hK hD hP hS (hF _ hf) rfl (ty := .boolean) (v := .int (iI x)) (by rw [h2]; decide) (by unfold fieldV; dsimp only at h2 ⊢; simp only [h2, upd_same]) (fun d fin q => by unfold kindOK at q; rw [h2] at q; simp at q; exact ⟨by rw [q.1]; decide +kernel, q.2⟩) (nar_Z h4) (fit_Z h4) hd (fun H1 locs1 a1 a2 => hk env _ _ ls H1 locs1 hl ⟨a1, a2⟩ h3)
    · obtain ⟨ci, j⟩ := f
      dsimp only at h1
      subst h1
      exact r_put hx hb hts hown hK hD hP hS (hF _ hf) rfl (ty := .long) (v := .long (lI x)) (by rw [h2]; decide) (by unfold fieldV; dsimp only at h2 ⊢; simp only [h2, upd_same]) (fun d fin q => by unfold kindOK at q; rw [h2] at q; simp at q; exact ⟨by rw [q.1]; decide +kernel, q.2⟩) rfl rfl hd (fun H1 locs1 a1 a2 => hk env _ _ ls H1 locs1 hl ⟨a1, a2⟩ h3)
  case iaload =>
    simp only [immOK, beq_iff_eq] at him
    subst him
    rcases aLd_inv (k := fun st => k env st σ) h with ⟨i, o, j, r, n, rfl, h1, h2, h3⟩ | ⟨i, r, rfl, h1, h2, h3⟩ | ⟨i, q, r, rfl, h1, h2, h3⟩
    · exact r_iald hx hb hK hP h1 h2 hd (hk env _ σ ls H locs hl hI h3)
    · obtain ⟨b5, e5, e6, e7, e8⟩ := hX (by omega)
      have e9 : (vI i :: vC 7 :: r).map (vv ad kd) = .int (iI i) :: .ref b5 :: r.map (vv ad kd) := by rw [List.map_cons, List.map_cons, ← e5]; rfl
      rw [e9]
      have hin : vp_in (iI i) (E.2.2.2.2.2.1 - 1) := ix_in ⟨h2.1, by omega⟩
      refine va_sld hx hb e6 e7 e8 hS hin hd ?_
      have e10 : (iI i).toNatClampNeg = (wr i).toNat := by rw [← wr_def]; rfl
      rw [e10]
      exact hk env _ σ ls H locs hl hI h3
    · obtain ⟨t5, e5, e6⟩ := hKC.2.1 q h1.1
      have e9 : (vI i :: vC q :: r).map (vv ad kd) = .int (iI i) :: .ref t5 :: r.map (vv ad kd) := by rw [List.map_cons, List.map_cons, ← e5]; rfl
      rw [e9]
      exact va_ti hx hb e6 hS (ix_in h2) (v := .int (iI (cval q (wr i)))) (by rw [ix_at h2.1]) hd (hk env _ σ ls H locs hl hI h3)
  case laload =>
    simp only [immOK, beq_iff_eq] at him
    subst him
    rcases aLd_inv (k := fun st => k env st σ) h with ⟨i, o, j, r, n, rfl, h1, h2, h3⟩ | ⟨i, r, rfl, h1, h2, h3⟩ | ⟨i, q, r, rfl, h1, h2, h3⟩
    · exact r_lald hx hb hK hP h1 h2 hd (hk env _ σ ls H locs hl hI h3)
    · exact absurd h1 (by decide)
    · exact absurd h1.2 (by decide)
  case baload =>
    simp only [immOK, beq_iff_eq] at him
    subst him
    rcases bLd_inv (k := fun st => k env st σ) h with ⟨i, o, j, r, kd0, n, rfl, h0, h1, h2, h3⟩ | ⟨i, q, r, rfl, h1, h2, h3⟩
    · exact r_bald hx hb hK hP h0 h1 h2 hd (hk env _ σ ls H locs hl hI h3)
    · obtain ⟨t5, e5, e6⟩ := hKC.2.2.1 q h1
      have e9 : (vI i :: vC q :: r).map (vv ad kd) = .int (iI i) :: .ref t5 :: r.map (vv ad kd) := by rw [List.map_cons, List.map_cons, ← e5]; rfl
      rw [e9]
      exact va_tb hx hb e6 hS (ix_in h2) (v := .int (iI (cval q (wr i)))) (by rw [ix_at h2.1]) hd (hk env _ σ ls H locs hl hI h3)
  case aaload =>
    simp only [immOK, beq_iff_eq] at him
    subst him
    obtain ⟨i, o, j, r, kd0, n, rfl, h0, h1, h2, h3⟩ := aLdR_inv (k := fun st => k env st σ) h
    exact r_aald hx hb hK hP h0 h1 h2 hd (hk env _ σ ls H locs hl hI h3)
  case iastore =>
    simp only [immOK, beq_iff_eq] at him
    subst him
    obtain ⟨x, i, o, j, r, n, rfl, h1, h2, h3⟩ := iSt_inv (k := fun st σ => k env st σ) h
    exact r_iast hx hb hK hD hP hS h1 h2 hd (fun H1 locs1 a1 a2 => hk env _ _ ls H1 locs1 hl ⟨a1, a2⟩ h3)
  case lastore =>
    simp only [immOK, beq_iff_eq] at him
    subst him
    obtain ⟨x, i, o, j, r, n, rfl, h1, h2, h3⟩ := lSt_inv (k := fun st σ => k env st σ) h
    exact r_last hx hb hK hD hP hS h1 h2 hd (fun H1 locs1 a1 a2 => hk env _ _ ls H1 locs1 hl ⟨a1, a2⟩ h3)
  case bastore =>
    simp only [immOK, beq_iff_eq] at him
    subst him
    obtain ⟨x, i, o, j, r, kd0, n, rfl, h0, h1, h2, h3⟩ := bSt_inv (k := fun st σ => k env st σ) h
    exact r_bast hx hb hK hD hP hS h0 h1 h2 hd (fun H1 locs1 a1 a2 => hk env _ _ ls H1 locs1 hl ⟨a1, a2⟩ h3)
  case arraylength =>
    simp only [immOK, beq_iff_eq] at him
    subst him
    rcases aLen_inv (k := fun st => k env st σ) h with ⟨o, j, r, kd0, n, rfl, h1, h2, h3⟩ | ⟨r, rfl, h1, h3⟩ | ⟨q, r, rfl, h1, h3⟩
    · exact r_alen hx hb hK hP h1 h2 hd (hk env _ σ ls H locs hl hI h3)
    · obtain ⟨b5, e5, e6, e7, e8⟩ := hX h1
      have e9 : (vC 7 :: r).map (vv ad kd) = .ref b5 :: r.map (vv ad kd) := by rw [List.map_cons, ← e5]; rfl
      rw [e9]
      refine va_slen hx hb e6 e7 e8 hS hd ?_
      have e10 : Int32.ofNat (E.2.2.2.2.2.1 - 1) = iI ((E.2.2.2.2.2.1 : Int) - 1) := by
        rw [show ((E.2.2.2.2.2.1 : Int) - 1) = ((E.2.2.2.2.2.1 - 1 : Nat) : Int) by omega]
        exact (Int32.ofInt_eq_ofNat (n := E.2.2.2.2.2.1 - 1)).symm
      rw [e10]
      exact hk env _ σ ls H locs hl hI h3
    · have h5 := hk env _ σ ls H locs hl hI h3
      have e10 : Int32.ofNat (clen q) = iI (clen q) := (Int32.ofInt_eq_ofNat (n := clen q)).symm
      rcases h1 with h1 | h1
      · obtain ⟨t5, e5, e6⟩ := hKC.2.1 q h1
        have e9 : (vC q :: r).map (vv ad kd) = .ref t5 :: r.map (vv ad kd) := by rw [List.map_cons, ← e5]; rfl
        rw [e9]
        exact va_tlen hx hb e6 hS e10 hd h5
      · obtain ⟨t5, e5, e6⟩ := hKC.2.2.1 q h1
        have e9 : (vC q :: r).map (vv ad kd) = .ref t5 :: r.map (vv ad kd) := by rw [List.map_cons, ← e5]; rfl
        rw [e9]
        exact va_tlen hx hb e6 hS e10 hd h5
  case invokevirtual n =>
    simp only [immOK, beq_iff_eq] at him
    subst him
    obtain ⟨ce, as, r, hce, rfl, hlen, h0, hW8, Qp, h1, h2⟩ := calV_inv (k := fun st σ => k env st σ) h
    exact r_calV hC (hCC _ hce) hl hI hlen h0 (by rw [cat_sum hkd]; exact hW8) h1 hd (fun v u H1 locs1 q i => by
      have h5 := hk env _ u ls H1 locs1 hl i (h2 v u q)
      rw [List.map_append] at h5
      cases v <;> exact h5)
  case invokestatic n =>
    simp only [immOK, beq_iff_eq] at him
    subst him
    obtain ⟨f1, f2⟩ := hR 0 hd0
    rcases calM_inv (k := fun st σ => k env st σ) h with ⟨v, x, y, r, hm, rfl, h8, h2⟩ | ⟨v, x, y, r, hm, rfl, h8, h2⟩ | ⟨v, x, y, r, hm, rfl, h8, h2⟩ | h
    · obtain ⟨w1, w2, w3, w4⟩ := hKK _ hm
      have h5 := hk env _ σ ls H locs hl hI h2
      refine va_mmax hx hb (hml.trans hl.1.symm) hown (hts _ w1) (hts _ w2) (hts _ w3) (hts _ w4) (by omega) (by rw [cat_sum hkd]; omega) hcs.1 hcs.2 hd ?_
      rw [← iI_max]
      exact h5
    · obtain ⟨w1, w2, w3, w4⟩ := hKK _ hm
      have h5 := hk env _ σ ls H locs hl hI h2
      refine va_mmin hx hb (hml.trans hl.1.symm) hown (hts _ w1) (hts _ w2) (hts _ w3) (hts _ w4) (by omega) (by rw [cat_sum hkd]; omega) hcs.1 hcs.2 hd ?_
      rw [← iI_min]
      exact h5
    · obtain ⟨w1, w2, w3, w4⟩ := hKK _ hm
      have h5 := hk env _ σ ls H locs hl hI h2
      refine va_mmax_long hx hb (hml.trans hl.1.symm) hown (hts _ w1) (hts _ w2) (hts _ w3) (hts _ w4) (by omega) (by rw [cat_sum hkd]; omega) hcs.1 hcs.2 hd ?_
      rw [← lI_max]
      exact h5
    · obtain ⟨ce, as, r, hce, rfl, hlen, h0, hW8, Qp, h1, h2⟩ := calS_inv (k := fun st σ => k env st σ) h
      exact r_calS hC (hCC _ hce) hl hI hlen h0 (by rw [cat_sum hkd]; exact hW8) h1 hd (fun v u H1 locs1 q i => by
        have h5 := hk env _ u ls H1 locs1 hl i (h2 v u q)
        rw [List.map_append] at h5
        cases v <;> exact h5)
  case ireturn =>
    simp only [immOK, beq_iff_eq] at him
    subst him
    obtain ⟨x, rfl, h⟩ := rI_inv h
    exact hr (some (vI x)) .ireturn pc σ ls H locs (Or.inl ⟨rfl, _, rfl⟩) hd hI h
  case lreturn =>
    simp only [immOK, beq_iff_eq] at him
    subst him
    obtain ⟨x, rfl, h⟩ := rL_inv h
    exact hr (some (vL x)) .lreturn pc σ ls H locs (Or.inr (Or.inl ⟨rfl, _, rfl⟩)) hd hI h
  case areturn =>
    simp only [immOK, beq_iff_eq] at him
    subst him
    obtain ⟨x, rfl, h⟩ := rA_inv h
    exact hr (some (vC x)) .areturn pc σ ls H locs (Or.inr (Or.inr (Or.inl ⟨rfl, _, rfl⟩))) hd hI h
  case return_ =>
    simp only [immOK, beq_iff_eq] at him
    subst him
    obtain ⟨rfl, h⟩ := rV_inv h
    exact hr none .return_ pc σ ls H locs (Or.inr (Or.inr (Or.inr ⟨rfl, rfl⟩))) hd hI h
  all_goals exact (show False from h).elim
end SI
end
section
/-! ===== a method's contract out of its blocks ===== -/
def nOK (ret : Option FieldType) : Option Vl → Prop
  | none => ret = none
  | some (.inl x) => ∃ ty, ret = some ty ∧ narrow ty (.int (iI x)) = .int (iI x)
  | some (.inr (.inl _)) => ret = some .long
  | some (.inr (.inr (.inr q))) => (∃ n, ret = some (.object n)) ∧ ¬ q = 5
  | some (.inr (.inr (.inl _))) => False
def pst (ret : Option FieldType) (Q : Pst) : Pst := fun v u => nOK ret v ∧ Q v u
def argIx : Nat → List Vl → List Nat
  | _, [] => []
  | i, v :: vs => i :: argIx (if vcat v = 2 then i + 2 else i + 1) vs
def wpM (E : EE) (ret : Option FieldType) (lv0 : List Nat) : Cle := fun as σ Q => (argIx 0 as = lv0 ∧ (as.map vcat).sum ≤ E.1) ∧ wps E (pst ret Q) 0 as [] σ
theorem lv_args_lm {ad : Nat × Nat → Nat} {kd : Nat → Value} (hk : ∀ q, kd q = .null ∨ ∃ a, kd q = .ref a) : ∀ (as : List Vl) (i : Nat), lv_args i (as.map (vv ad kd)) = lm ad kd ((argIx i as).zip as)
  | [], _ => rfl
  | v :: vs, i => by
    show (i, vv ad kd v) :: lv_args (if (vv ad kd v).category = 2 then i + 2 else i + 1) (vs.map (vv ad kd)) = (i, vv ad kd v) :: lm ad kd ((argIx (if vcat v = 2 then i + 2 else i + 1) vs).zip vs)
    rw [vv_cat hk, lv_args_lm hk vs]
theorem lg_len {ad : Nat × Nat → Nat} {kd : Nat → Value} (hk : ∀ q, kd q = .null ∨ ∃ a, kd q = .ref a) : ∀ (as : List Vl), (lg_sl (as.map (vv ad kd))).length = (as.map vcat).sum
  | [] => rfl
  | v :: vs => by
    show ((if (vv ad kd v).category = 2 then [Slot.val (vv ad kd v), .second] else [.val (vv ad kd v)]) ++ lg_sl (vs.map (vv ad kd))).length = vcat v + (vs.map vcat).sum
    rw [List.length_append, lg_len hk vs, vv_cat hk]
    have : vcat v = 1 ∨ vcat v = 2 := by
      rcases v with x | x | (_ | d) | k <;> simp [vcat]
    rcases this with h | h
    · rw [if_neg (by omega), h]; rfl
    · rw [if_pos h, h]; rfl
section ME
variable {p : Program} {l : Launch} {e : Env} {R : Room} {s : State} {m : MethodId} {args : Array Value} {below : List Frame} {meth : Method} {c : Code} {cells slots : Nat} {Q : State → Prop}
variable {cc : ByteArray} {D : va_G} {ad : Nat × Nat → Nat} {cA : Nat → ClassId} {kd : Nat → Value} {z : Nat} {own : String} {E : EE} {d0 : Nat} {post : Pst}
theorem runL_sound (hC : CX p R s m args c cells slots cc D ad cA kd z own E d0) {P : Nat → List Vl → List Vl → Mem → Prop}
    (hj : ∀ (t : Nat) (vals st' : List Vl) (σ' : Mem) (ls' : Array Slot) (H' : Heap) (locs' : List Loc) (b : List Nat × List Ent), lkB t E.2.1 = some b → lv_has ls' E.1 (lm ad kd (b.1.zip vals)) → IV D ad cA z s σ' H' locs' → P t vals st' σ' → W p l e R s m args below meth c H' locs' cells slots Q (F0 m t ls' (st'.map (vv ad kd))))
    (hr : ∀ (v : Option Vl) (ins : Instr) (pc : Nat) (σ' : Mem) (ls' : Array Slot) (H' : Heap) (locs' : List Loc), ((ins = .ireturn ∧ ∃ x, v = some (vI x)) ∨ (ins = .lreturn ∧ ∃ x, v = some (vL x)) ∨ (ins = .areturn ∧ ∃ q, v = some (vC q)) ∨ (ins = .return_ ∧ v = none)) → decode cc pc = .ok (ins, 1) → IV D ad cA z s σ' H' locs' → post v σ' → W p l e R s m args below meth c H' locs' cells slots Q (F0 m pc ls' ((v.map (vv ad kd)).toList))) :
    ∀ (rows : List Ent) (nx : Nat) (env : Lc) (st : List Vl) (σ : Mem) (ls : Array Slot) (H : Heap) (locs : List Loc), rowsOK cc nx rows = true → lv_has ls E.1 (lm ad kd env) → IV D ad cA z s σ H locs → runL E post P rows nx env st σ → W p l e R s m args below meth c H locs cells slots Q (F0 m nx ls (st.map (vv ad kd)))
  | [], nx, env, st, σ, ls, H, locs, _, hl, hI, h => jmp_sound hl hI hj h
  | en :: r, nx, env, st, σ, ls, H, locs, hok, hl, hI, h => by
    unfold rowsOK at hok
    rw [Bool.and_eq_true, Bool.and_eq_true, beq_iff_eq] at hok
    obtain ⟨rfl, h1, h2⟩ := hok
    exact ins_sound hC h1 hl hI (fun env' st' σ' ls' H' locs' a1 a2 a3 => runL_sound hC hj hr r _ env' st' σ' ls' H' locs' h2 a1 a2 a3) hj hr h
theorem wps_sound (hC : CX p R s m args c cells slots cc D ad cA kd z own E d0) (hok : blksOK cc E = true)
    (hr : ∀ (v : Option Vl) (ins : Instr) (pc : Nat) (σ' : Mem) (ls' : Array Slot) (H' : Heap) (locs' : List Loc), ((ins = .ireturn ∧ ∃ x, v = some (vI x)) ∨ (ins = .lreturn ∧ ∃ x, v = some (vL x)) ∨ (ins = .areturn ∧ ∃ q, v = some (vC q)) ∨ (ins = .return_ ∧ v = none)) → decode cc pc = .ok (ins, 1) → IV D ad cA z s σ' H' locs' → post v σ' → W p l e R s m args below meth c H' locs' cells slots Q (F0 m pc ls' ((v.map (vv ad kd)).toList)))
    {pc : Nat} {vals st : List Vl} {σ : Mem} (h : wps E post pc vals st σ) : ∀ (ls : Array Slot) (H : Heap) (locs : List Loc) (b : List Nat × List Ent), lkB pc E.2.1 = some b → lv_has ls E.1 (lm ad kd (b.1.zip vals)) → IV D ad cA z s σ H locs → W p l e R s m args below meth c H locs cells slots Q (F0 m pc ls (st.map (vv ad kd))) := by
  refine h (fun pc vals st σ => ∀ (ls : Array Slot) (H : Heap) (locs : List Loc) (b : List Nat × List Ent), lkB pc E.2.1 = some b → lv_has ls E.1 (lm ad kd (b.1.zip vals)) → IV D ad cA z s σ H locs → W p l e R s m args below meth c H locs cells slots Q (F0 m pc ls (st.map (vv ad kd)))) ?_
  intro pc vals st σ hb ls H locs b hlb hl hI
  unfold blk at hb
  rw [hlb] at hb
  have h1 : rowsOK cc pc b.2 = true := List.all_eq_true.mp hok (pc, b) (lkB_mem hlb)
  exact runL_sound hC (fun t vals st' σ' ls' H' locs' b' q1 q2 q3 q4 => q4 ls' H' locs' b' q1 q2 q3) hr b.2 pc _ st σ ls H locs h1 hl hI hb
end ME
theorem MT_of {y : MethodName} {b : ByteArray} {E : EE} {ret : Option FieldType} {d : Nat} {lv0 : List Nat} (hy : plainName y.cls = true) (hlk : ∃ ents, lkB 0 E.2.1 = some (lv0, ents)) (hok : blksOK b E = true) (hF : ∀ f ∈ E.2.2.1, FOK y.cls f) (hK : ∀ f ∈ E.2.2.2.1, KOK y.cls f) (hCC : ∀ f ∈ E.2.2.2.2.1, COK d y.cls f) (hs : E.2.2.2.2.2.1 = 0) (hd0 : 0 < d) : MT y b E.1 ret d (wpM E ret lv0) := by
  intro l D ad cA kd z as σ Q hw
  obtain ⟨⟨ha1, ha2⟩, hw⟩ := hw
  refine Met.ofW (cc := b) (maxL := E.1) (ret := ret) hy rfl ?_
  intro p e s m args below meth c s₁ B hml hv
  obtain ⟨rfl, hP, hKk, hD, hKC⟩ := hv
  have hx := B.exec
  have hb := B.bytes
  have hr := B.returns
  have hts := atoms_spec (ws := .code y b E.1 ret :: gtb) B.pre
  have hown : s.vm.findClass y.cls = some m.cls := findClass_of_methodNamed B.named
  have hlocks := B.notSynchronized
  have hC : CX p (rmd d) s m (as.map (vv ad kd)).toArray c 0 0 b D ad cA kd z y.cls E d := ⟨⟨hx, hb, hml, hown, fun w h => hts w (List.mem_cons_of_mem _ h)⟩, ⟨hKk, hD, hKC⟩, ⟨hF, hK, hCC⟩, ⟨⟨fun d' h => ⟨h, by show 39 + 40 * d' ≤ 40 * d; omega⟩, hd0⟩, Nat.le_refl _, Nat.le_refl _⟩, fun h => absurd h (by omega)⟩
  have hl := lv_entry (as.map (vv ad kd)) (n := E.1) (by rw [lg_len hKC.1.1]; exact ha2)
  rw [lg_entry_eq]
  generalize (lg_sl (as.map (vv ad kd)) ++ List.replicate (E.1 - (lg_sl (as.map (vv ad kd))).length) Slot.unset).toArray = ls at hl ⊢
  rw [lv_args_lm hKC.1.1, ha1] at hl
  obtain ⟨ents, he⟩ := hlk
  refine wps_sound hC hok ?_ hw ls s.heap [] (lv0, ents) he hl ⟨hP, va_S.rf⟩
  intro v ins pc σ' ls' H' locs' hi hd hI hp
  obtain ⟨hn, hq⟩ := hp
  have fin : ∀ t : State, t.heap = H' → QX D ad cA kd z Q (as.map (vv ad kd)).toArray s (.returned (v.map (vv ad kd))) t := fun t ht => ⟨⟨v, σ', rfl, hq, by rw [ht]; exact hI.1⟩, hI.2.F ht⟩
  rcases hi with ⟨rfl, x, rfl⟩ | ⟨rfl, x, rfl⟩ | ⟨rfl, q, rfl⟩ | ⟨rfl, rfl⟩
  · obtain ⟨ty, h1, h2⟩ := hn
    exact W.zret (v := iI x) hx hb (hr.trans h1) h2 (fun t ht _ => fin t ht) hI.2.2.2 hd hlocks
  · exact W.lret (v := lI x) hx hb (hr.trans hn) (fun t ht _ => fin t ht) hI.2.2.2 hd hlocks
  · obtain ⟨⟨n, h1⟩, h2⟩ := hn
    obtain ⟨a, ha⟩ := hKC.1.2 q h2
    exact W.aret (v := kd q) hx hb (hr.trans h1) (Or.inl ⟨n, rfl⟩) (Or.inr ⟨a, ha⟩) (fun t ht _ => fin t ht) hI.2.2.2 hd hlocks
  · exact W.vret hx hb (hr.trans hn) (fun t ht _ => fin t ht) hI.2.2.2 hd hlocks
end
section
/-! ===== what the tables say of fields, constants, methods ===== -/
theorem gk_1 {w : Cond} (i : Nat) (h : tables_1_1[i]? = some w) (hg : goodWord w = true) : w ∈ gtb := by
  have h1 : w ∈ tables_1_1 := List.mem_of_getElem? h
  exact List.mem_filter.mpr ⟨List.mem_append_right _ (List.mem_append_left _ h1), hg⟩
theorem gk_2 {w : Cond} (i : Nat) (h : tables_1_2[i]? = some w) (hg : goodWord w = true) : w ∈ gtb := by
  have h1 : w ∈ tables_1_2 := List.mem_of_getElem? h
  exact List.mem_filter.mpr ⟨List.mem_append_right _ (List.mem_append_right _ (List.mem_append_left _ h1)), hg⟩
theorem gk_3 {w : Cond} (i : Nat) (h : tables_1_3[i]? = some w) (hg : goodWord w = true) : w ∈ gtb := by
  have h1 : w ∈ tables_1_3 := List.mem_of_getElem? h
  exact List.mem_filter.mpr ⟨List.mem_append_right _ (List.mem_append_right _ (List.mem_append_right _ (List.mem_append_left _ h1))), hg⟩
theorem gk_4 {w : Cond} (i : Nat) (h : tables_1_4[i]? = some w) (hg : goodWord w = true) : w ∈ gtb := by
  have h1 : w ∈ tables_1_4 := List.mem_of_getElem? h
  exact List.mem_filter.mpr ⟨List.mem_append_right _ (List.mem_append_right _ (List.mem_append_right _ (List.mem_append_right _ (List.mem_append_left _ h1)))), hg⟩
theorem gk_5 {w : Cond} (i : Nat) (h : tables_1_5[i]? = some w) (hg : goodWord w = true) : w ∈ gtb := by
  have h1 : w ∈ tables_1_5 := List.mem_of_getElem? h
  exact List.mem_filter.mpr ⟨List.mem_append_right _ (List.mem_append_right _ (List.mem_append_right _ (List.mem_append_right _ (List.mem_append_right _ (List.mem_append_left _ h1))))), hg⟩
theorem gk_6 {w : Cond} (i : Nat) (h : tables_1_6[i]? = some w) (hg : goodWord w = true) : w ∈ gtb := by
  have h1 : w ∈ tables_1_6 := List.mem_of_getElem? h
  exact List.mem_filter.mpr ⟨List.mem_append_right _ (List.mem_append_right _ (List.mem_append_right _ (List.mem_append_right _ (List.mem_append_right _ (List.mem_append_right _ (List.mem_append_left _ h1)))))), hg⟩
theorem gk_7 {w : Cond} (i : Nat) (h : tables_1_7[i]? = some w) (hg : goodWord w = true) : w ∈ gtb := by
  have h1 : w ∈ tables_1_7 := List.mem_of_getElem? h
  exact List.mem_filter.mpr ⟨List.mem_append_right _ (List.mem_append_right _ (List.mem_append_right _ (List.mem_append_right _ (List.mem_append_right _ (List.mem_append_right _ (List.mem_append_right _ (List.mem_append_left _ h1))))))), hg⟩
theorem gk_8 {w : Cond} (i : Nat) (h : tables_1_8[i]? = some w) (hg : goodWord w = true) : w ∈ gtb := by
  have h1 : w ∈ tables_1_8 := List.mem_of_getElem? h
  exact List.mem_filter.mpr ⟨List.mem_append_right _ (List.mem_append_right _ (List.mem_append_right _ (List.mem_append_right _ (List.mem_append_right _ (List.mem_append_right _ (List.mem_append_right _ (List.mem_append_right _ (h1)))))))), hg⟩
theorem gp_1 {y : MethodName} {n : Nat} (i : Nat) (h : lw_privs_1[i]? = some (y, n)) (hg : goodWord (Cond.selects y.cls y y) = true) : Cond.selects y.cls y y ∈ gtb := by
  have h1 : (y, n) ∈ lw_privs_1 := List.mem_of_getElem? h
  have h2 : (y, n) ∈ lw_privs := List.mem_append_left _ h1
  exact List.mem_filter.mpr ⟨List.mem_append_left _ (List.mem_map.mpr ⟨(y, n), h2, rfl⟩), hg⟩
theorem gp_2 {y : MethodName} {n : Nat} (i : Nat) (h : lw_privs_2[i]? = some (y, n)) (hg : goodWord (Cond.selects y.cls y y) = true) : Cond.selects y.cls y y ∈ gtb := by
  have h1 : (y, n) ∈ lw_privs_2 := List.mem_of_getElem? h
  have h2 : (y, n) ∈ lw_privs := List.mem_append_right _ (List.mem_append_left _ h1)
  exact List.mem_filter.mpr ⟨List.mem_append_left _ (List.mem_map.mpr ⟨(y, n), h2, rfl⟩), hg⟩
theorem gp_3 {y : MethodName} {n : Nat} (i : Nat) (h : lw_privs_3[i]? = some (y, n)) (hg : goodWord (Cond.selects y.cls y y) = true) : Cond.selects y.cls y y ∈ gtb := by
  have h1 : (y, n) ∈ lw_privs_3 := List.mem_of_getElem? h
  have h2 : (y, n) ∈ lw_privs := List.mem_append_right _ (List.mem_append_right _ (List.mem_append_left _ h1))
  exact List.mem_filter.mpr ⟨List.mem_append_left _ (List.mem_map.mpr ⟨(y, n), h2, rfl⟩), hg⟩
theorem gp_4 {y : MethodName} {n : Nat} (i : Nat) (h : lw_privs_4[i]? = some (y, n)) (hg : goodWord (Cond.selects y.cls y y) = true) : Cond.selects y.cls y y ∈ gtb := by
  have h1 : (y, n) ∈ lw_privs_4 := List.mem_of_getElem? h
  have h2 : (y, n) ∈ lw_privs := List.mem_append_right _ (List.mem_append_right _ (List.mem_append_right _ (List.mem_append_left _ h1)))
  exact List.mem_filter.mpr ⟨List.mem_append_left _ (List.mem_map.mpr ⟨(y, n), h2, rfl⟩), hg⟩
theorem gp_5 {y : MethodName} {n : Nat} (i : Nat) (h : lw_privs_5[i]? = some (y, n)) (hg : goodWord (Cond.selects y.cls y y) = true) : Cond.selects y.cls y y ∈ gtb := by
  have h1 : (y, n) ∈ lw_privs_5 := List.mem_of_getElem? h
  have h2 : (y, n) ∈ lw_privs := List.mem_append_right _ (List.mem_append_right _ (List.mem_append_right _ (List.mem_append_right _ (List.mem_append_left _ h1))))
  exact List.mem_filter.mpr ⟨List.mem_append_left _ (List.mem_map.mpr ⟨(y, n), h2, rfl⟩), hg⟩
theorem gp_6 {y : MethodName} {n : Nat} (i : Nat) (h : lw_privs_6[i]? = some (y, n)) (hg : goodWord (Cond.selects y.cls y y) = true) : Cond.selects y.cls y y ∈ gtb := by
  have h1 : (y, n) ∈ lw_privs_6 := List.mem_of_getElem? h
  have h2 : (y, n) ∈ lw_privs := List.mem_append_right _ (List.mem_append_right _ (List.mem_append_right _ (List.mem_append_right _ (List.mem_append_right _ (List.mem_append_left _ h1)))))
  exact List.mem_filter.mpr ⟨List.mem_append_left _ (List.mem_map.mpr ⟨(y, n), h2, rfl⟩), hg⟩
theorem gp_7 {y : MethodName} {n : Nat} (i : Nat) (h : lw_privs_7[i]? = some (y, n)) (hg : goodWord (Cond.selects y.cls y y) = true) : Cond.selects y.cls y y ∈ gtb := by
  have h1 : (y, n) ∈ lw_privs_7 := List.mem_of_getElem? h
  have h2 : (y, n) ∈ lw_privs := List.mem_append_right _ (List.mem_append_right _ (List.mem_append_right _ (List.mem_append_right _ (List.mem_append_right _ (List.mem_append_right _ (h1))))))
  exact List.mem_filter.mpr ⟨List.mem_append_left _ (List.mem_map.mpr ⟨(y, n), h2, rfl⟩), hg⟩
theorem kok_js_15 : KOK RJ0 (15, (4, vN)) := gk_8 128 rfl rfl
theorem kok_js_38 : KOK RJ0 (38, (3, vI 1)) := ⟨"java/lang/String", "COMPACT_STRINGS", "Z", List.mem_of_getElem? (i := 4) rfl, gk_3 62 rfl rfl⟩
theorem kok_js_9 : KOK RJ0 (9, (5, vN)) := gk_8 127 rfl rfl
theorem kok_js_1053 : KOK RJ0 (1053, (3, vC 5)) := ⟨"jdk/internal/util/Preconditions", "SIOOBE_FORMATTER", "Ljava/util/function/BiFunction;", List.mem_of_getElem? (i := 5) rfl, gk_3 78 rfl rfl⟩
theorem kok_ji_265 : KOK RJ6 (265, (0, vI (1431655765))) := ⟨_, rfl, gk_4 202 rfl rfl⟩
theorem kok_ji_266 : KOK RJ6 (266, (0, vI (858993459))) := ⟨_, rfl, gk_4 203 rfl rfl⟩
theorem kok_ji_267 : KOK RJ6 (267, (0, vI (252645135))) := ⟨_, rfl, gk_4 204 rfl rfl⟩
theorem fok_fm_44 : FOK RX0 (44, (5, 12)) := ⟨_, _, _, rfl, by decide, gk_1 106 rfl rfl⟩
theorem fok_fm_47 : FOK RX0 (47, (5, 11)) := ⟨_, _, _, rfl, by decide, gk_1 103 rfl rfl⟩
theorem fok_fm_50 : FOK RX0 (50, (5, 13)) := ⟨_, _, _, rfl, by decide, gk_1 109 rfl rfl⟩
theorem fok_fm_11 : FOK RX0 (11, (0, 0)) := ⟨_, _, _, rfl, by decide, gk_2 117 rfl rfl⟩
theorem fok_fm_26 : FOK RX0 (26, (5, 14)) := ⟨_, _, _, rfl, by decide, gk_1 111 rfl rfl⟩
theorem kok_fm_38 : KOK RX0 (38, (6, vN)) := ⟨gk_5 68 rfl rfl, gk_4 55 rfl rfl, gk_1 18 rfl rfl, gk_4 56 rfl rfl⟩
theorem fok_fm_53 : FOK RX0 (53, (7, 6)) := ⟨_, _, _, rfl, by decide, gk_1 217 rfl rfl⟩
theorem fok_fm_22 : FOK RX0 (22, (0, 2)) := ⟨_, _, _, rfl, by decide, gk_2 119 rfl rfl⟩
theorem fok_fm_84 : FOK RX0 (84, (7, 4)) := ⟨_, _, _, rfl, by decide, gk_1 212 rfl rfl⟩
theorem fok_fm_19 : FOK RX0 (19, (0, 1)) := ⟨_, _, _, rfl, by decide, gk_2 118 rfl rfl⟩
theorem fok_fm_56 : FOK RX0 (56, (7, 0)) := ⟨_, _, _, rfl, by decide, gk_1 202 rfl rfl⟩
theorem fok_fm_81 : FOK RX0 (81, (5, 16)) := ⟨_, _, _, rfl, by decide, gk_1 119 rfl rfl⟩
theorem fok_fm_60 : FOK RX0 (60, (7, 3)) := ⟨_, _, _, rfl, by decide, gk_1 209 rfl rfl⟩
theorem fok_fm_67 : FOK RX0 (67, (7, 2)) := ⟨_, _, _, rfl, by decide, gk_1 206 rfl rfl⟩
theorem fok_fm_70 : FOK RX0 (70, (5, 15)) := ⟨_, _, _, rfl, by decide, gk_1 116 rfl rfl⟩
theorem fok_kp_11 : FOK RX1 (11, (1, 0)) := ⟨_, _, _, rfl, by decide, gk_2 133 rfl rfl⟩
theorem fok_kp_18 : FOK RX1 (18, (9, 1)) := ⟨_, _, _, rfl, by decide, gk_1 165 rfl rfl⟩
theorem fok_kp_44 : FOK RX1 (44, (9, 0)) := ⟨_, _, _, rfl, by decide, gk_1 162 rfl rfl⟩
theorem fok_kp_15 : FOK RX1 (15, (1, 1)) := ⟨_, _, _, rfl, by decide, gk_2 134 rfl rfl⟩
theorem kok_kp_53 : KOK RX1 (53, (7, vN)) := ⟨gk_4 205 rfl rfl, gk_4 184 rfl rfl, gk_1 18 rfl rfl, gk_4 185 rfl rfl⟩
theorem fok_kp_59 : FOK RX1 (59, (1, 2)) := ⟨_, _, _, rfl, by decide, gk_2 135 rfl rfl⟩
theorem fok_kp_62 : FOK RX1 (62, (1, 3)) := ⟨_, _, _, rfl, by decide, gk_2 137 rfl rfl⟩
theorem fok_kp_63 : FOK RX1 (63, (1, 4)) := ⟨_, _, _, rfl, by decide, gk_2 139 rfl rfl⟩
theorem kok_kp_26 : KOK RX1 (26, (0, vI (1000000))) := ⟨_, rfl, gk_4 194 rfl rfl⟩
theorem fok_kp_27 : FOK RX1 (27, (5, 4)) := ⟨_, _, _, rfl, by decide, gk_1 79 rfl rfl⟩
theorem fok_kp_32 : FOK RX1 (32, (5, 0)) := ⟨_, _, _, rfl, by decide, gk_1 61 rfl rfl⟩
theorem fok_kp_33 : FOK RX1 (33, (5, 8)) := ⟨_, _, _, rfl, by decide, gk_1 91 rfl rfl⟩
theorem fok_ru_34 : FOK RX2 (34, (2, 1)) := ⟨_, _, _, rfl, by decide, gk_2 61 rfl rfl⟩
theorem fok_ru_38 : FOK RX2 (38, (2, 6)) := ⟨_, _, _, rfl, by decide, gk_2 66 rfl rfl⟩
theorem fok_ru_11 : FOK RX2 (11, (2, 0)) := ⟨_, _, _, rfl, by decide, gk_2 60 rfl rfl⟩
theorem fok_ru_17 : FOK RX2 (17, (2, 2)) := ⟨_, _, _, rfl, by decide, gk_2 62 rfl rfl⟩
theorem fok_ru_21 : FOK RX2 (21, (2, 3)) := ⟨_, _, _, rfl, by decide, gk_2 63 rfl rfl⟩
theorem fok_ru_24 : FOK RX2 (24, (2, 4)) := ⟨_, _, _, rfl, by decide, gk_2 64 rfl rfl⟩
theorem fok_ru_27 : FOK RX2 (27, (2, 5)) := ⟨_, _, _, rfl, by decide, gk_2 65 rfl rfl⟩
theorem fok_ru_30 : FOK RX2 (30, (2, 7)) := ⟨_, _, _, rfl, by decide, gk_2 67 rfl rfl⟩
theorem fok_tx_19 : FOK RX8 (19, (8, 2)) := ⟨_, _, _, rfl, by decide, gk_1 39 rfl rfl⟩
theorem fok_tx_15 : FOK RX8 (15, (8, 1)) := ⟨_, _, _, rfl, by decide, gk_1 36 rfl rfl⟩
theorem fok_tx_11 : FOK RX8 (11, (8, 0)) := ⟨_, _, _, rfl, by decide, gk_1 34 rfl rfl⟩
theorem fok_rr_22 : FOK RX3 (22, (3, 0)) := ⟨_, _, _, rfl, by decide, gk_2 85 rfl rfl⟩
theorem fok_rr_33 : FOK RX3 (33, (8, 2)) := ⟨_, _, _, rfl, by decide, gk_1 37 rfl rfl⟩
theorem kok_rr_121 : KOK RX3 (121, (2, vC 14)) := ⟨"not", 14, rfl, List.mem_of_getElem? (i := 4) rfl⟩
theorem fok_rr_84 : FOK RX3 (84, (3, 5)) := ⟨_, _, _, rfl, by decide, gk_2 91 rfl rfl⟩
theorem fok_rr_18 : FOK RX3 (18, (3, 4)) := ⟨_, _, _, rfl, by decide, gk_2 90 rfl rfl⟩
theorem fok_rr_90 : FOK RX3 (90, (3, 7)) := ⟨_, _, _, rfl, by decide, gk_2 93 rfl rfl⟩
theorem fok_rr_87 : FOK RX3 (87, (3, 6)) := ⟨_, _, _, rfl, by decide, gk_2 92 rfl rfl⟩
theorem kok_tx_31 : KOK RX8 (31, (0, vI (100000))) := ⟨_, rfl, gk_3 113 rfl rfl⟩
theorem fok_rr_29 : FOK RX3 (29, (3, 2)) := ⟨_, _, _, rfl, by decide, gk_2 88 rfl rfl⟩
theorem fok_rr_12 : FOK RX3 (12, (3, 1)) := ⟨_, _, _, rfl, by decide, gk_2 86 rfl rfl⟩
theorem kok_rr_135 : KOK RX3 (135, (2, vC 16)) := ⟨"left order rest flaws width lot stripe bale day", 16, rfl, List.mem_of_getElem? (i := 5) rfl⟩
theorem kok_rr_137 : KOK RX3 (137, (0, vI (100000))) := ⟨_, rfl, gk_3 216 rfl rfl⟩
theorem fok_rr_99 : FOK RX3 (99, (3, 3)) := ⟨_, _, _, rfl, by decide, gk_2 89 rfl rfl⟩
theorem kok_rr_109 : KOK RX3 (109, (2, vC 18)) := ⟨"and or", 18, rfl, List.mem_of_getElem? (i := 3) rfl⟩
theorem kok_rr_56 : KOK RX3 (56, (2, vC 12)) := ⟨"from give", 12, rfl, List.mem_of_getElem? (i := 1) rfl⟩
theorem kok_rr_75 : KOK RX3 (75, (2, vC 20)) := ⟨"if", 20, rfl, List.mem_of_getElem? (i := 2) rfl⟩
theorem fok_sp_44 : FOK RX4 (44, (9, 4)) := ⟨_, _, _, rfl, by decide, gk_1 174 rfl rfl⟩
theorem fok_sp_17 : FOK RX4 (17, (4, 1)) := ⟨_, _, _, rfl, by decide, gk_2 196 rfl rfl⟩
theorem fok_sp_50 : FOK RX4 (50, (9, 3)) := ⟨_, _, _, rfl, by decide, gk_1 171 rfl rfl⟩
theorem fok_sp_13 : FOK RX4 (13, (4, 0)) := ⟨_, _, _, rfl, by decide, gk_2 195 rfl rfl⟩
theorem kok_sp_47 : KOK RX4 (47, (7, vN)) := ⟨gk_5 118 rfl rfl, gk_4 184 rfl rfl, gk_1 18 rfl rfl, gk_4 185 rfl rfl⟩
theorem fok_sp_31 : FOK RX4 (31, (9, 5)) := ⟨_, _, _, rfl, by decide, gk_1 177 rfl rfl⟩
theorem kok_sp_38 : KOK RX4 (38, (6, vN)) := ⟨gk_5 119 rfl rfl, gk_4 55 rfl rfl, gk_1 18 rfl rfl, gk_4 56 rfl rfl⟩
theorem fok_sp_25 : FOK RX4 (25, (4, 2)) := ⟨_, _, _, rfl, by decide, gk_2 197 rfl rfl⟩
theorem fok_sp_28 : FOK RX4 (28, (4, 3)) := ⟨_, _, _, rfl, by decide, gk_2 199 rfl rfl⟩
theorem fok_sh_39 : FOK RX5 (39, (5, 4)) := ⟨_, _, _, rfl, by decide, gk_1 78 rfl rfl⟩
theorem fok_sh_43 : FOK RX5 (43, (5, 7)) := ⟨_, _, _, rfl, by decide, gk_1 88 rfl rfl⟩
theorem fok_sh_46 : FOK RX5 (46, (5, 8)) := ⟨_, _, _, rfl, by decide, gk_1 90 rfl rfl⟩
theorem fok_sh_49 : FOK RX5 (49, (5, 9)) := ⟨_, _, _, rfl, by decide, gk_1 96 rfl rfl⟩
theorem fok_sh_52 : FOK RX5 (52, (5, 10)) := ⟨_, _, _, rfl, by decide, gk_1 99 rfl rfl⟩
theorem fok_sh_55 : FOK RX5 (55, (5, 14)) := ⟨_, _, _, rfl, by decide, gk_1 112 rfl rfl⟩
theorem fok_sh_58 : FOK RX5 (58, (5, 15)) := ⟨_, _, _, rfl, by decide, gk_1 114 rfl rfl⟩
theorem fok_sh_61 : FOK RX5 (61, (5, 16)) := ⟨_, _, _, rfl, by decide, gk_1 117 rfl rfl⟩
theorem fok_sh_11 : FOK RX5 (11, (5, 0)) := ⟨_, _, _, rfl, by decide, gk_1 60 rfl rfl⟩
theorem fok_sh_15 : FOK RX5 (15, (5, 1)) := ⟨_, _, _, rfl, by decide, gk_1 66 rfl rfl⟩
theorem fok_sh_18 : FOK RX5 (18, (5, 2)) := ⟨_, _, _, rfl, by decide, gk_1 70 rfl rfl⟩
theorem fok_sh_21 : FOK RX5 (21, (5, 3)) := ⟨_, _, _, rfl, by decide, gk_1 74 rfl rfl⟩
theorem fok_sh_24 : FOK RX5 (24, (5, 5)) := ⟨_, _, _, rfl, by decide, gk_1 84 rfl rfl⟩
theorem fok_sh_27 : FOK RX5 (27, (5, 6)) := ⟨_, _, _, rfl, by decide, gk_1 86 rfl rfl⟩
theorem fok_sh_30 : FOK RX5 (30, (5, 11)) := ⟨_, _, _, rfl, by decide, gk_1 102 rfl rfl⟩
theorem fok_sh_33 : FOK RX5 (33, (5, 12)) := ⟨_, _, _, rfl, by decide, gk_1 105 rfl rfl⟩
theorem fok_sh_36 : FOK RX5 (36, (5, 13)) := ⟨_, _, _, rfl, by decide, gk_1 108 rfl rfl⟩
theorem kok_sh_64 : KOK RX5 (64, (6, vN)) := ⟨gk_4 54 rfl rfl, gk_4 55 rfl rfl, gk_1 18 rfl rfl, gk_4 56 rfl rfl⟩
theorem fok_sr_12 : FOK RX6 (12, (6, 1)) := ⟨_, _, _, rfl, by decide, gk_2 34 rfl rfl⟩
theorem fok_sr_49 : FOK RX6 (49, (5, 4)) := ⟨_, _, _, rfl, by decide, gk_1 80 rfl rfl⟩
theorem fok_sr_18 : FOK RX6 (18, (6, 2)) := ⟨_, _, _, rfl, by decide, gk_2 36 rfl rfl⟩
theorem fok_sr_91 : FOK RX6 (91, (5, 0)) := ⟨_, _, _, rfl, by decide, gk_1 63 rfl rfl⟩
theorem kok_sr_84 : KOK RX6 (84, (3, vC 4)) := ⟨"ClothEnds$ShopReader", "MOST", "[I", List.mem_of_getElem? (i := 3) rfl, gk_3 120 rfl rfl⟩
theorem fok_sr_94 : FOK RX6 (94, (5, 1)) := ⟨_, _, _, rfl, by decide, gk_1 67 rfl rfl⟩
theorem fok_sr_97 : FOK RX6 (97, (5, 2)) := ⟨_, _, _, rfl, by decide, gk_1 71 rfl rfl⟩
theorem fok_sr_100 : FOK RX6 (100, (5, 3)) := ⟨_, _, _, rfl, by decide, gk_1 75 rfl rfl⟩
theorem fok_sr_103 : FOK RX6 (103, (5, 5)) := ⟨_, _, _, rfl, by decide, gk_1 85 rfl rfl⟩
theorem fok_sr_106 : FOK RX6 (106, (5, 6)) := ⟨_, _, _, rfl, by decide, gk_1 87 rfl rfl⟩
theorem fok_sr_109 : FOK RX6 (109, (5, 7)) := ⟨_, _, _, rfl, by decide, gk_1 89 rfl rfl⟩
theorem fok_sr_112 : FOK RX6 (112, (5, 8)) := ⟨_, _, _, rfl, by decide, gk_1 93 rfl rfl⟩
theorem fok_sr_115 : FOK RX6 (115, (5, 9)) := ⟨_, _, _, rfl, by decide, gk_1 97 rfl rfl⟩
theorem fok_sr_118 : FOK RX6 (118, (5, 10)) := ⟨_, _, _, rfl, by decide, gk_1 100 rfl rfl⟩
theorem fok_sr_121 : FOK RX6 (121, (5, 11)) := ⟨_, _, _, rfl, by decide, gk_1 104 rfl rfl⟩
theorem fok_sr_124 : FOK RX6 (124, (5, 12)) := ⟨_, _, _, rfl, by decide, gk_1 107 rfl rfl⟩
theorem fok_sr_127 : FOK RX6 (127, (5, 13)) := ⟨_, _, _, rfl, by decide, gk_1 110 rfl rfl⟩
theorem fok_sr_130 : FOK RX6 (130, (5, 14)) := ⟨_, _, _, rfl, by decide, gk_1 113 rfl rfl⟩
theorem fok_sr_133 : FOK RX6 (133, (5, 15)) := ⟨_, _, _, rfl, by decide, gk_1 115 rfl rfl⟩
theorem fok_sr_136 : FOK RX6 (136, (5, 16)) := ⟨_, _, _, rfl, by decide, gk_1 118 rfl rfl⟩
theorem fok_sr_25 : FOK RX6 (25, (6, 0)) := ⟨_, _, _, rfl, by decide, gk_2 33 rfl rfl⟩
theorem fok_sr_22 : FOK RX6 (22, (6, 3)) := ⟨_, _, _, rfl, by decide, gk_2 37 rfl rfl⟩
theorem kok_sr_59 : KOK RX6 (59, (2, vC 10)) := ⟨"bale flaw thumb askew board form pair", 10, rfl, List.mem_of_getElem? (i := 0) rfl⟩
theorem kok_sr_65 : KOK RX6 (65, (3, vC 1)) := ⟨"ClothEnds$ShopReader", "MOST_TOLD", "[I", List.mem_of_getElem? (i := 0) rfl, gk_3 105 rfl rfl⟩
theorem kok_sr_68 : KOK RX6 (68, (3, vC 2)) := ⟨"ClothEnds$ShopReader", "NUMBERS", "[I", List.mem_of_getElem? (i := 1) rfl, gk_3 107 rfl rfl⟩
theorem kok_sr_74 : KOK RX6 (74, (3, vC 3)) := ⟨"ClothEnds$ShopReader", "LEAST", "[I", List.mem_of_getElem? (i := 2) rfl, gk_3 114 rfl rfl⟩
theorem fok_sr_32 : FOK RX6 (32, (8, 2)) := ⟨_, _, _, rfl, by decide, gk_1 38 rfl rfl⟩
theorem fok_td_25 : FOK RX9 (25, (9, 1)) := ⟨_, _, _, rfl, by decide, gk_1 164 rfl rfl⟩
theorem fok_td_29 : FOK RX9 (29, (9, 5)) := ⟨_, _, _, rfl, by decide, gk_1 176 rfl rfl⟩
theorem fok_td_35 : FOK RX9 (35, (9, 7)) := ⟨_, _, _, rfl, by decide, gk_1 181 rfl rfl⟩
theorem fok_td_9 : FOK RX9 (9, (9, 0)) := ⟨_, _, _, rfl, by decide, gk_1 161 rfl rfl⟩
theorem fok_td_13 : FOK RX9 (13, (9, 2)) := ⟨_, _, _, rfl, by decide, gk_1 167 rfl rfl⟩
theorem fok_td_16 : FOK RX9 (16, (9, 3)) := ⟨_, _, _, rfl, by decide, gk_1 170 rfl rfl⟩
theorem fok_td_19 : FOK RX9 (19, (9, 4)) := ⟨_, _, _, rfl, by decide, gk_1 173 rfl rfl⟩
theorem fok_td_22 : FOK RX9 (22, (9, 6)) := ⟨_, _, _, rfl, by decide, gk_1 179 rfl rfl⟩
theorem fok_sd_12 : FOK RX7 (12, (7, 0)) := ⟨_, _, _, rfl, by decide, gk_1 200 rfl rfl⟩
theorem fok_sd_21 : FOK RX7 (21, (7, 1)) := ⟨_, _, _, rfl, by decide, gk_1 203 rfl rfl⟩
theorem fok_sd_25 : FOK RX7 (25, (7, 2)) := ⟨_, _, _, rfl, by decide, gk_1 205 rfl rfl⟩
theorem fok_sd_29 : FOK RX7 (29, (7, 3)) := ⟨_, _, _, rfl, by decide, gk_1 208 rfl rfl⟩
theorem fok_sd_32 : FOK RX7 (32, (7, 4)) := ⟨_, _, _, rfl, by decide, gk_1 211 rfl rfl⟩
theorem fok_sd_35 : FOK RX7 (35, (7, 5)) := ⟨_, _, _, rfl, by decide, gk_1 214 rfl rfl⟩
theorem fok_sd_51 : FOK RX7 (51, (7, 6)) := ⟨_, _, _, rfl, by decide, gk_1 216 rfl rfl⟩
theorem fok_sd_55 : FOK RX7 (55, (7, 7)) := ⟨_, _, _, rfl, by decide, gk_1 219 rfl rfl⟩
theorem fok_sd_58 : FOK RX7 (58, (7, 8)) := ⟨_, _, _, rfl, by decide, gk_1 221 rfl rfl⟩
theorem fok_sd_61 : FOK RX7 (61, (7, 9)) := ⟨_, _, _, rfl, by decide, gk_1 223 rfl rfl⟩
theorem fok_sd_64 : FOK RX7 (64, (7, 10)) := ⟨_, _, _, rfl, by decide, gk_1 225 rfl rfl⟩
theorem fok_sd_67 : FOK RX7 (67, (7, 11)) := ⟨_, _, _, rfl, by decide, gk_1 227 rfl rfl⟩
theorem fok_sd_70 : FOK RX7 (70, (7, 12)) := ⟨_, _, _, rfl, by decide, gk_1 229 rfl rfl⟩
theorem fok_sd_79 : FOK RX7 (79, (5, 0)) := ⟨_, _, _, rfl, by decide, gk_1 64 rfl rfl⟩
theorem fok_sd_82 : FOK RX7 (82, (5, 1)) := ⟨_, _, _, rfl, by decide, gk_1 68 rfl rfl⟩
theorem fok_sd_85 : FOK RX7 (85, (5, 2)) := ⟨_, _, _, rfl, by decide, gk_1 72 rfl rfl⟩
theorem fok_sd_40 : FOK RX7 (40, (7, 13)) := ⟨_, _, _, rfl, by decide, gk_1 231 rfl rfl⟩
theorem fok_sd_111 : FOK RX7 (111, (5, 8)) := ⟨_, _, _, rfl, by decide, gk_1 95 rfl rfl⟩
theorem fok_sd_132 : FOK RX7 (132, (5, 3)) := ⟨_, _, _, rfl, by decide, gk_1 77 rfl rfl⟩
theorem fok_sd_121 : FOK RX7 (121, (5, 4)) := ⟨_, _, _, rfl, by decide, gk_1 83 rfl rfl⟩
theorem kok_sd_142 : KOK RX7 (142, (1, vL (1103515245))) := ⟨_, rfl, gk_4 149 rfl rfl⟩
theorem kok_sd_144 : KOK RX7 (144, (1, vL (12345))) := ⟨_, rfl, gk_4 150 rfl rfl⟩
theorem kok_sd_146 : KOK RX7 (146, (1, vL (2147483648))) := ⟨_, rfl, gk_4 151 rfl rfl⟩
theorem kok_sd_148 : KOK RX7 (148, (0, vI (65536))) := ⟨_, rfl, gk_4 152 rfl rfl⟩
theorem fok_wp_38 : FOK RX10 (38, (5, 8)) := ⟨_, _, _, rfl, by decide, gk_1 92 rfl rfl⟩
theorem fok_wp_44 : FOK RX10 (44, (10, 2)) := ⟨_, _, _, rfl, by decide, gk_2 160 rfl rfl⟩
theorem fok_wp_11 : FOK RX10 (11, (10, 0)) := ⟨_, _, _, rfl, by decide, gk_2 158 rfl rfl⟩
theorem fok_wp_15 : FOK RX10 (15, (10, 1)) := ⟨_, _, _, rfl, by decide, gk_2 159 rfl rfl⟩
theorem fok_wp_45 : FOK RX10 (45, (5, 4)) := ⟨_, _, _, rfl, by decide, gk_1 81 rfl rfl⟩
theorem fok_wp_47 : FOK RX10 (47, (5, 0)) := ⟨_, _, _, rfl, by decide, gk_1 62 rfl rfl⟩
theorem fok_wp_23 : FOK RX10 (23, (10, 4)) := ⟨_, _, _, rfl, by decide, gk_2 162 rfl rfl⟩
theorem fok_wp_20 : FOK RX10 (20, (10, 3)) := ⟨_, _, _, rfl, by decide, gk_2 161 rfl rfl⟩
theorem fok_wp_50 : FOK RX10 (50, (9, 2)) := ⟨_, _, _, rfl, by decide, gk_1 168 rfl rfl⟩
theorem fok_wp_27 : FOK RX10 (27, (10, 5)) := ⟨_, _, _, rfl, by decide, gk_2 163 rfl rfl⟩
theorem kok_wp_78 : KOK RX10 (78, (6, vN)) := ⟨gk_5 4 rfl rfl, gk_4 55 rfl rfl, gk_1 18 rfl rfl, gk_4 56 rfl rfl⟩
theorem kok_wp_83 : KOK RX10 (83, (7, vN)) := ⟨gk_5 9 rfl rfl, gk_4 184 rfl rfl, gk_1 18 rfl rfl, gk_4 185 rfl rfl⟩
theorem kok_wp_86 : KOK RX10 (86, (8, vN)) := ⟨gk_5 10 rfl rfl, gk_5 11 rfl rfl, gk_1 18 rfl rfl, gk_5 12 rfl rfl⟩
theorem fok_wp_68 : FOK RX10 (68, (10, 8)) := ⟨_, _, _, rfl, by decide, gk_2 168 rfl rfl⟩
theorem fok_wp_56 : FOK RX10 (56, (10, 7)) := ⟨_, _, _, rfl, by decide, gk_2 166 rfl rfl⟩
theorem fok_wp_51 : FOK RX10 (51, (10, 6)) := ⟨_, _, _, rfl, by decide, gk_2 164 rfl rfl⟩
theorem kok_wp_54 : KOK RX10 (54, (1, vL (-1))) := ⟨_, rfl, gk_4 235 rfl rfl⟩
theorem fok_ce_10 : FOK RX11 (10, (11, 0)) := ⟨_, _, _, rfl, by decide, gk_2 211 rfl rfl⟩
theorem fok_ce_89 : FOK RX11 (89, (8, 1)) := ⟨_, _, _, rfl, by decide, gk_1 35 rfl rfl⟩
theorem fok_ce_49 : FOK RX11 (49, (11, 8)) := ⟨_, _, _, rfl, by decide, gk_2 219 rfl rfl⟩
theorem fok_ce_19 : FOK RX11 (19, (11, 1)) := ⟨_, _, _, rfl, by decide, gk_2 212 rfl rfl⟩
theorem fok_ce_105 : FOK RX11 (105, (6, 1)) := ⟨_, _, _, rfl, by decide, gk_2 35 rfl rfl⟩
theorem fok_ce_113 : FOK RX11 (113, (7, 0)) := ⟨_, _, _, rfl, by decide, gk_1 201 rfl rfl⟩
theorem fok_ce_116 : FOK RX11 (116, (5, 4)) := ⟨_, _, _, rfl, by decide, gk_1 82 rfl rfl⟩
theorem fok_ce_121 : FOK RX11 (121, (11, 6)) := ⟨_, _, _, rfl, by decide, gk_2 217 rfl rfl⟩
theorem fok_ce_56 : FOK RX11 (56, (11, 9)) := ⟨_, _, _, rfl, by decide, gk_2 220 rfl rfl⟩
theorem fok_ce_36 : FOK RX11 (36, (11, 5)) := ⟨_, _, _, rfl, by decide, gk_2 216 rfl rfl⟩
theorem fok_ce_125 : FOK RX11 (125, (3, 1)) := ⟨_, _, _, rfl, by decide, gk_2 87 rfl rfl⟩
theorem fok_ce_136 : FOK RX11 (136, (5, 0)) := ⟨_, _, _, rfl, by decide, gk_1 65 rfl rfl⟩
theorem fok_ce_139 : FOK RX11 (139, (5, 1)) := ⟨_, _, _, rfl, by decide, gk_1 69 rfl rfl⟩
theorem fok_ce_142 : FOK RX11 (142, (5, 2)) := ⟨_, _, _, rfl, by decide, gk_1 73 rfl rfl⟩
theorem fok_ce_145 : FOK RX11 (145, (5, 3)) := ⟨_, _, _, rfl, by decide, gk_1 76 rfl rfl⟩
theorem fok_ce_40 : FOK RX11 (40, (11, 7)) := ⟨_, _, _, rfl, by decide, gk_2 218 rfl rfl⟩
theorem fok_ce_159 : FOK RX11 (159, (5, 8)) := ⟨_, _, _, rfl, by decide, gk_1 94 rfl rfl⟩
theorem fok_ce_166 : FOK RX11 (166, (5, 9)) := ⟨_, _, _, rfl, by decide, gk_1 98 rfl rfl⟩
theorem fok_ce_172 : FOK RX11 (172, (7, 6)) := ⟨_, _, _, rfl, by decide, gk_1 218 rfl rfl⟩
theorem fok_ce_179 : FOK RX11 (179, (7, 2)) := ⟨_, _, _, rfl, by decide, gk_1 207 rfl rfl⟩
theorem fok_ce_182 : FOK RX11 (182, (7, 3)) := ⟨_, _, _, rfl, by decide, gk_1 210 rfl rfl⟩
theorem fok_ce_185 : FOK RX11 (185, (7, 4)) := ⟨_, _, _, rfl, by decide, gk_1 213 rfl rfl⟩
theorem fok_ce_188 : FOK RX11 (188, (7, 5)) := ⟨_, _, _, rfl, by decide, gk_1 215 rfl rfl⟩
theorem fok_ce_205 : FOK RX11 (205, (7, 11)) := ⟨_, _, _, rfl, by decide, gk_1 228 rfl rfl⟩
theorem fok_ce_208 : FOK RX11 (208, (7, 7)) := ⟨_, _, _, rfl, by decide, gk_1 220 rfl rfl⟩
theorem fok_ce_211 : FOK RX11 (211, (7, 10)) := ⟨_, _, _, rfl, by decide, gk_1 226 rfl rfl⟩
theorem fok_ce_23 : FOK RX11 (23, (11, 2)) := ⟨_, _, _, rfl, by decide, gk_2 213 rfl rfl⟩
theorem fok_ce_224 : FOK RX11 (224, (7, 8)) := ⟨_, _, _, rfl, by decide, gk_1 222 rfl rfl⟩
theorem fok_ce_227 : FOK RX11 (227, (7, 9)) := ⟨_, _, _, rfl, by decide, gk_1 224 rfl rfl⟩
theorem fok_ce_233 : FOK RX11 (233, (7, 1)) := ⟨_, _, _, rfl, by decide, gk_1 204 rfl rfl⟩
theorem fok_ce_237 : FOK RX11 (237, (9, 1)) := ⟨_, _, _, rfl, by decide, gk_1 166 rfl rfl⟩
theorem fok_ce_242 : FOK RX11 (242, (9, 0)) := ⟨_, _, _, rfl, by decide, gk_1 163 rfl rfl⟩
theorem fok_ce_70 : FOK RX11 (70, (11, 11)) := ⟨_, _, _, rfl, by decide, gk_2 222 rfl rfl⟩
theorem fok_ce_257 : FOK RX11 (257, (1, 2)) := ⟨_, _, _, rfl, by decide, gk_2 136 rfl rfl⟩
theorem fok_ce_258 : FOK RX11 (258, (1, 3)) := ⟨_, _, _, rfl, by decide, gk_2 138 rfl rfl⟩
theorem fok_ce_259 : FOK RX11 (259, (1, 4)) := ⟨_, _, _, rfl, by decide, gk_2 140 rfl rfl⟩
theorem kok_ce_248 : KOK RX11 (248, (7, vN)) := ⟨gk_4 183 rfl rfl, gk_4 184 rfl rfl, gk_1 18 rfl rfl, gk_4 185 rfl rfl⟩
theorem fok_ce_260 : FOK RX11 (260, (9, 2)) := ⟨_, _, _, rfl, by decide, gk_1 169 rfl rfl⟩
theorem fok_ce_77 : FOK RX11 (77, (11, 12)) := ⟨_, _, _, rfl, by decide, gk_2 223 rfl rfl⟩
theorem fok_ce_272 : FOK RX11 (272, (10, 6)) := ⟨_, _, _, rfl, by decide, gk_2 165 rfl rfl⟩
theorem fok_ce_275 : FOK RX11 (275, (10, 7)) := ⟨_, _, _, rfl, by decide, gk_2 167 rfl rfl⟩
theorem fok_ce_279 : FOK RX11 (279, (10, 8)) := ⟨_, _, _, rfl, by decide, gk_2 169 rfl rfl⟩
theorem kok_ce_267 : KOK RX11 (267, (1, vL (-2))) := ⟨_, rfl, gk_4 230 rfl rfl⟩
theorem fok_ce_63 : FOK RX11 (63, (11, 10)) := ⟨_, _, _, rfl, by decide, gk_2 221 rfl rfl⟩
theorem fok_ce_313 : FOK RX11 (313, (9, 5)) := ⟨_, _, _, rfl, by decide, gk_1 178 rfl rfl⟩
theorem fok_ce_316 : FOK RX11 (316, (9, 3)) := ⟨_, _, _, rfl, by decide, gk_1 172 rfl rfl⟩
theorem fok_ce_319 : FOK RX11 (319, (9, 4)) := ⟨_, _, _, rfl, by decide, gk_1 175 rfl rfl⟩
theorem fok_ce_84 : FOK RX11 (84, (11, 13)) := ⟨_, _, _, rfl, by decide, gk_2 224 rfl rfl⟩
theorem fok_ce_325 : FOK RX11 (325, (4, 2)) := ⟨_, _, _, rfl, by decide, gk_2 198 rfl rfl⟩
theorem fok_ce_328 : FOK RX11 (328, (4, 3)) := ⟨_, _, _, rfl, by decide, gk_2 200 rfl rfl⟩
theorem kok_ce_331 : KOK RX11 (331, (1, vL (450))) := ⟨_, rfl, gk_5 124 rfl rfl⟩
theorem kok_ce_333 : KOK RX11 (333, (1, vL (333))) := ⟨_, rfl, gk_5 125 rfl rfl⟩
theorem kok_ce_335 : KOK RX11 (335, (1, vL (106))) := ⟨_, rfl, gk_5 126 rfl rfl⟩
theorem kok_ce_337 : KOK RX11 (337, (1, vL (355))) := ⟨_, rfl, gk_5 127 rfl rfl⟩
theorem kok_ce_339 : KOK RX11 (339, (1, vL (113))) := ⟨_, rfl, gk_5 128 rfl rfl⟩
theorem fok_ce_344 : FOK RX11 (344, (9, 7)) := ⟨_, _, _, rfl, by decide, gk_1 182 rfl rfl⟩
theorem fok_ce_347 : FOK RX11 (347, (9, 6)) := ⟨_, _, _, rfl, by decide, gk_1 180 rfl rfl⟩
theorem fok_ce_350 : FOK RX11 (350, (7, 12)) := ⟨_, _, _, rfl, by decide, gk_1 230 rfl rfl⟩
theorem fok_ce_353 : FOK RX11 (353, (5, 10)) := ⟨_, _, _, rfl, by decide, gk_1 101 rfl rfl⟩
theorem fok_ce_26 : FOK RX11 (26, (11, 3)) := ⟨_, _, _, rfl, by decide, gk_2 214 rfl rfl⟩
theorem fok_ce_30 : FOK RX11 (30, (11, 4)) := ⟨_, _, _, rfl, by decide, gk_2 215 rfl rfl⟩
theorem fok_md_9 : FOK RX12 (9, (12, 1)) := ⟨_, _, _, rfl, by decide, gk_5 165 rfl rfl⟩
theorem fok_md_13 : FOK RX12 (13, (12, 2)) := ⟨_, _, _, rfl, by decide, gk_5 166 rfl rfl⟩
theorem fok_md_28 : FOK RX12 (28, (12, 7)) := ⟨_, _, _, rfl, by decide, gk_5 171 rfl rfl⟩
theorem fok_md_31 : FOK RX12 (31, (12, 8)) := ⟨_, _, _, rfl, by decide, gk_5 172 rfl rfl⟩
theorem fok_md_16 : FOK RX12 (16, (12, 3)) := ⟨_, _, _, rfl, by decide, gk_5 167 rfl rfl⟩
theorem fok_md_107 : FOK RX12 (107, (12, 43)) := ⟨_, _, _, rfl, by decide, gk_5 207 rfl rfl⟩
theorem fok_md_193 : FOK RX12 (193, (12, 32)) := ⟨_, _, _, rfl, by decide, gk_5 196 rfl rfl⟩
theorem kok_md_200 : KOK RX12 (200, (2, vC 40)) := ⟨"left", 40, rfl, List.mem_of_getElem? (i := 6) rfl⟩
theorem kok_md_201 : KOK RX12 (201, (2, vC 42)) := ⟨"order", 42, rfl, List.mem_of_getElem? (i := 7) rfl⟩
theorem kok_md_203 : KOK RX12 (203, (2, vC 44)) := ⟨"rest", 44, rfl, List.mem_of_getElem? (i := 8) rfl⟩
theorem kok_md_205 : KOK RX12 (205, (2, vC 46)) := ⟨"flaws", 46, rfl, List.mem_of_getElem? (i := 9) rfl⟩
theorem kok_md_207 : KOK RX12 (207, (2, vC 48)) := ⟨"width", 48, rfl, List.mem_of_getElem? (i := 10) rfl⟩
theorem kok_md_208 : KOK RX12 (208, (2, vC 50)) := ⟨"lot", 50, rfl, List.mem_of_getElem? (i := 11) rfl⟩
theorem kok_md_209 : KOK RX12 (209, (2, vC 52)) := ⟨"stripe", 52, rfl, List.mem_of_getElem? (i := 12) rfl⟩
theorem kok_md_210 : KOK RX12 (210, (2, vC 22)) := ⟨"bale", 22, rfl, List.mem_of_getElem? (i := 13) rfl⟩
theorem kok_md_212 : KOK RX12 (212, (2, vC 54)) := ⟨"day", 54, rfl, List.mem_of_getElem? (i := 14) rfl⟩
theorem kok_md_214 : KOK RX12 (214, (2, vC 24)) := ⟨"flaw", 24, rfl, List.mem_of_getElem? (i := 15) rfl⟩
theorem kok_md_216 : KOK RX12 (216, (2, vC 26)) := ⟨"thumb", 26, rfl, List.mem_of_getElem? (i := 16) rfl⟩
theorem kok_md_218 : KOK RX12 (218, (2, vC 28)) := ⟨"askew", 28, rfl, List.mem_of_getElem? (i := 17) rfl⟩
theorem kok_md_220 : KOK RX12 (220, (2, vC 30)) := ⟨"board", 30, rfl, List.mem_of_getElem? (i := 18) rfl⟩
theorem kok_md_222 : KOK RX12 (222, (2, vC 32)) := ⟨"form", 32, rfl, List.mem_of_getElem? (i := 19) rfl⟩
theorem kok_md_224 : KOK RX12 (224, (2, vC 34)) := ⟨"pair", 34, rfl, List.mem_of_getElem? (i := 20) rfl⟩
theorem fok_md_226 : FOK RX12 (226, (12, 34)) := ⟨_, _, _, rfl, by decide, gk_5 198 rfl rfl⟩
theorem fok_md_229 : FOK RX12 (229, (12, 33)) := ⟨_, _, _, rfl, by decide, gk_5 197 rfl rfl⟩
theorem kok_md_236 : KOK RX12 (236, (1, vL (48))) := ⟨_, rfl, gk_6 214 rfl rfl⟩
theorem kok_md_238 : KOK RX12 (238, (1, vL (57))) := ⟨_, rfl, gk_6 215 rfl rfl⟩
theorem fok_md_111 : FOK RX12 (111, (12, 44)) := ⟨_, _, _, rfl, by decide, gk_5 208 rfl rfl⟩
theorem fok_md_256 : FOK RX12 (256, (12, 35)) := ⟨_, _, _, rfl, by decide, gk_5 199 rfl rfl⟩
theorem fok_md_259 : FOK RX12 (259, (12, 37)) := ⟨_, _, _, rfl, by decide, gk_5 201 rfl rfl⟩
theorem fok_md_114 : FOK RX12 (114, (12, 45)) := ⟨_, _, _, rfl, by decide, gk_5 209 rfl rfl⟩
theorem fok_md_262 : FOK RX12 (262, (12, 39)) := ⟨_, _, _, rfl, by decide, gk_5 203 rfl rfl⟩
theorem fok_md_103 : FOK RX12 (103, (12, 41)) := ⟨_, _, _, rfl, by decide, gk_5 205 rfl rfl⟩
theorem kok_md_273 : KOK RX12 (273, (0, vI (99999))) := ⟨_, rfl, gk_6 205 rfl rfl⟩
theorem fok_md_297 : FOK RX12 (297, (12, 40)) := ⟨_, _, _, rfl, by decide, gk_5 204 rfl rfl⟩
theorem fok_md_132 : FOK RX12 (132, (12, 51)) := ⟨_, _, _, rfl, by decide, gk_5 215 rfl rfl⟩
theorem fok_md_300 : FOK RX12 (300, (12, 38)) := ⟨_, _, _, rfl, by decide, gk_5 202 rfl rfl⟩
theorem kok_md_306 : KOK RX12 (306, (2, vC 14)) := ⟨"not", 14, rfl, List.mem_of_getElem? (i := 21) rfl⟩
theorem kok_md_320 : KOK RX12 (320, (2, vC 56)) := ⟨"and", 56, rfl, List.mem_of_getElem? (i := 22) rfl⟩
theorem kok_md_322 : KOK RX12 (322, (2, vC 58)) := ⟨"or", 58, rfl, List.mem_of_getElem? (i := 23) rfl⟩
theorem fok_md_43 : FOK RX12 (43, (12, 12)) := ⟨_, _, _, rfl, by decide, gk_5 176 rfl rfl⟩
theorem fok_md_46 : FOK RX12 (46, (12, 13)) := ⟨_, _, _, rfl, by decide, gk_5 177 rfl rfl⟩
theorem fok_md_49 : FOK RX12 (49, (12, 14)) := ⟨_, _, _, rfl, by decide, gk_5 178 rfl rfl⟩
theorem fok_md_52 : FOK RX12 (52, (12, 15)) := ⟨_, _, _, rfl, by decide, gk_5 179 rfl rfl⟩
theorem fok_md_55 : FOK RX12 (55, (12, 16)) := ⟨_, _, _, rfl, by decide, gk_5 180 rfl rfl⟩
theorem fok_md_58 : FOK RX12 (58, (12, 17)) := ⟨_, _, _, rfl, by decide, gk_5 181 rfl rfl⟩
theorem fok_md_61 : FOK RX12 (61, (12, 18)) := ⟨_, _, _, rfl, by decide, gk_5 182 rfl rfl⟩
theorem fok_md_64 : FOK RX12 (64, (12, 19)) := ⟨_, _, _, rfl, by decide, gk_5 183 rfl rfl⟩
theorem fok_md_67 : FOK RX12 (67, (12, 20)) := ⟨_, _, _, rfl, by decide, gk_5 184 rfl rfl⟩
theorem fok_md_70 : FOK RX12 (70, (12, 21)) := ⟨_, _, _, rfl, by decide, gk_5 185 rfl rfl⟩
theorem fok_md_328 : FOK RX12 (328, (12, 42)) := ⟨_, _, _, rfl, by decide, gk_5 206 rfl rfl⟩
theorem fok_md_19 : FOK RX12 (19, (12, 4)) := ⟨_, _, _, rfl, by decide, gk_5 168 rfl rfl⟩
theorem fok_md_22 : FOK RX12 (22, (12, 5)) := ⟨_, _, _, rfl, by decide, gk_5 169 rfl rfl⟩
theorem fok_md_25 : FOK RX12 (25, (12, 6)) := ⟨_, _, _, rfl, by decide, gk_5 170 rfl rfl⟩
theorem fok_md_34 : FOK RX12 (34, (12, 9)) := ⟨_, _, _, rfl, by decide, gk_5 173 rfl rfl⟩
theorem fok_md_37 : FOK RX12 (37, (12, 10)) := ⟨_, _, _, rfl, by decide, gk_5 174 rfl rfl⟩
theorem fok_md_40 : FOK RX12 (40, (12, 11)) := ⟨_, _, _, rfl, by decide, gk_5 175 rfl rfl⟩
theorem fok_md_88 : FOK RX12 (88, (12, 27)) := ⟨_, _, _, rfl, by decide, gk_5 191 rfl rfl⟩
theorem fok_md_120 : FOK RX12 (120, (12, 47)) := ⟨_, _, _, rfl, by decide, gk_5 211 rfl rfl⟩
theorem fok_md_123 : FOK RX12 (123, (12, 48)) := ⟨_, _, _, rfl, by decide, gk_5 212 rfl rfl⟩
theorem fok_md_126 : FOK RX12 (126, (12, 49)) := ⟨_, _, _, rfl, by decide, gk_5 213 rfl rfl⟩
theorem fok_md_129 : FOK RX12 (129, (12, 50)) := ⟨_, _, _, rfl, by decide, gk_5 214 rfl rfl⟩
theorem kok_md_357 : KOK RX12 (357, (2, vC 36)) := ⟨"give", 36, rfl, List.mem_of_getElem? (i := 24) rfl⟩
theorem kok_md_359 : KOK RX12 (359, (2, vC 38)) := ⟨"from", 38, rfl, List.mem_of_getElem? (i := 25) rfl⟩
theorem kok_md_361 : KOK RX12 (361, (2, vC 20)) := ⟨"if", 20, rfl, List.mem_of_getElem? (i := 26) rfl⟩
theorem fok_md_369 : FOK RX12 (369, (12, 36)) := ⟨_, _, _, rfl, by decide, gk_5 200 rfl rfl⟩
theorem fok_md_117 : FOK RX12 (117, (12, 46)) := ⟨_, _, _, rfl, by decide, gk_5 210 rfl rfl⟩
theorem fok_md_139 : FOK RX12 (139, (12, 53)) := ⟨_, _, _, rfl, by decide, gk_5 217 rfl rfl⟩
theorem fok_md_135 : FOK RX12 (135, (12, 52)) := ⟨_, _, _, rfl, by decide, gk_5 216 rfl rfl⟩
theorem kok_md_403 : KOK RX12 (403, (1, vL (480))) := ⟨_, rfl, gk_7 87 rfl rfl⟩
theorem fok_md_73 : FOK RX12 (73, (12, 22)) := ⟨_, _, _, rfl, by decide, gk_5 186 rfl rfl⟩
theorem fok_md_76 : FOK RX12 (76, (12, 23)) := ⟨_, _, _, rfl, by decide, gk_5 187 rfl rfl⟩
theorem fok_md_79 : FOK RX12 (79, (12, 24)) := ⟨_, _, _, rfl, by decide, gk_5 188 rfl rfl⟩
theorem fok_md_82 : FOK RX12 (82, (12, 25)) := ⟨_, _, _, rfl, by decide, gk_5 189 rfl rfl⟩
theorem kok_md_440 : KOK RX12 (440, (1, vL (1103515245))) := ⟨_, rfl, gk_7 180 rfl rfl⟩
theorem kok_md_442 : KOK RX12 (442, (1, vL (12345))) := ⟨_, rfl, gk_7 181 rfl rfl⟩
theorem kok_md_444 : KOK RX12 (444, (1, vL (2147483648))) := ⟨_, rfl, gk_7 182 rfl rfl⟩
theorem kok_md_446 : KOK RX12 (446, (0, vI (65536))) := ⟨_, rfl, gk_7 183 rfl rfl⟩
theorem kok_md_450 : KOK RX12 (450, (1, vL (40))) := ⟨_, rfl, gk_7 170 rfl rfl⟩
theorem kok_md_452 : KOK RX12 (452, (1, vL (80))) := ⟨_, rfl, gk_7 171 rfl rfl⟩
theorem fok_md_142 : FOK RX12 (142, (12, 54)) := ⟨_, _, _, rfl, by decide, gk_5 218 rfl rfl⟩
theorem fok_md_145 : FOK RX12 (145, (12, 55)) := ⟨_, _, _, rfl, by decide, gk_5 219 rfl rfl⟩
theorem fok_md_148 : FOK RX12 (148, (12, 56)) := ⟨_, _, _, rfl, by decide, gk_5 220 rfl rfl⟩
theorem kok_md_461 : KOK RX12 (461, (1, vL (30))) := ⟨_, rfl, gk_7 188 rfl rfl⟩
theorem kok_md_463 : KOK RX12 (463, (1, vL (4))) := ⟨_, rfl, gk_7 189 rfl rfl⟩
theorem fok_md_85 : FOK RX12 (85, (12, 26)) := ⟨_, _, _, rfl, by decide, gk_5 190 rfl rfl⟩
theorem kok_md_468 : KOK RX12 (468, (0, vI (1000000))) := ⟨_, rfl, gk_7 207 rfl rfl⟩
theorem fok_md_154 : FOK RX12 (154, (12, 58)) := ⟨_, _, _, rfl, by decide, gk_5 222 rfl rfl⟩
theorem fok_md_151 : FOK RX12 (151, (12, 57)) := ⟨_, _, _, rfl, by decide, gk_5 221 rfl rfl⟩
theorem kok_md_469 : KOK RX12 (469, (1, vL (3))) := ⟨_, rfl, gk_7 202 rfl rfl⟩
theorem kok_md_477 : KOK RX12 (477, (1, vL (8))) := ⟨_, rfl, gk_7 216 rfl rfl⟩
theorem kok_md_479 : KOK RX12 (479, (1, vL (9))) := ⟨_, rfl, gk_7 217 rfl rfl⟩
theorem fok_md_481 : FOK RX12 (481, (12, 62)) := ⟨_, _, _, rfl, by decide, gk_5 226 rfl rfl⟩
theorem fok_md_164 : FOK RX12 (164, (12, 61)) := ⟨_, _, _, rfl, by decide, gk_5 225 rfl rfl⟩
theorem fok_md_161 : FOK RX12 (161, (12, 60)) := ⟨_, _, _, rfl, by decide, gk_5 224 rfl rfl⟩
theorem fok_md_158 : FOK RX12 (158, (12, 59)) := ⟨_, _, _, rfl, by decide, gk_5 223 rfl rfl⟩
theorem kok_md_493 : KOK RX12 (493, (0, vI (68921))) := ⟨_, rfl, gk_7 236 rfl rfl⟩
theorem kok_md_501 : KOK RX12 (501, (1, vL (2))) := ⟨_, rfl, gk_7 222 rfl rfl⟩
theorem kok_md_506 : KOK RX12 (506, (1, vL (-2))) := ⟨_, rfl, gk_7 231 rfl rfl⟩
theorem kok_md_518 : KOK RX12 (518, (1, vL (20))) := ⟨_, rfl, gk_8 26 rfl rfl⟩
theorem fok_md_167 : FOK RX12 (167, (12, 63)) := ⟨_, _, _, rfl, by decide, gk_5 227 rfl rfl⟩
theorem kok_md_524 : KOK RX12 (524, (1, vL (99))) := ⟨_, rfl, gk_8 43 rfl rfl⟩
theorem fok_md_170 : FOK RX12 (170, (12, 64)) := ⟨_, _, _, rfl, by decide, gk_5 228 rfl rfl⟩
theorem fok_md_173 : FOK RX12 (173, (12, 65)) := ⟨_, _, _, rfl, by decide, gk_5 229 rfl rfl⟩
theorem kok_md_532 : KOK RX12 (532, (1, vL (9999))) := ⟨_, rfl, gk_8 60 rfl rfl⟩
theorem kok_md_534 : KOK RX12 (534, (1, vL (100))) := ⟨_, rfl, gk_8 61 rfl rfl⟩
theorem fok_md_91 : FOK RX12 (91, (12, 28)) := ⟨_, _, _, rfl, by decide, gk_5 192 rfl rfl⟩
theorem fok_md_94 : FOK RX12 (94, (12, 29)) := ⟨_, _, _, rfl, by decide, gk_5 193 rfl rfl⟩
theorem fok_md_176 : FOK RX12 (176, (12, 66)) := ⟨_, _, _, rfl, by decide, gk_5 230 rfl rfl⟩
theorem kok_md_536 : KOK RX12 (536, (1, vL (60))) := ⟨_, rfl, gk_8 70 rfl rfl⟩
theorem kok_md_538 : KOK RX12 (538, (1, vL (50))) := ⟨_, rfl, gk_8 71 rfl rfl⟩
theorem kok_md_544 : KOK RX12 (544, (1, vL (999))) := ⟨_, rfl, gk_8 80 rfl rfl⟩
theorem kok_md_546 : KOK RX12 (546, (1, vL (333))) := ⟨_, rfl, gk_8 81 rfl rfl⟩
theorem kok_md_548 : KOK RX12 (548, (1, vL (47700))) := ⟨_, rfl, gk_8 82 rfl rfl⟩
theorem kok_md_550 : KOK RX12 (550, (1, vL (355))) := ⟨_, rfl, gk_8 83 rfl rfl⟩
theorem kok_md_552 : KOK RX12 (552, (1, vL (50850))) := ⟨_, rfl, gk_8 84 rfl rfl⟩
theorem fok_md_97 : FOK RX12 (97, (12, 30)) := ⟨_, _, _, rfl, by decide, gk_5 194 rfl rfl⟩
theorem fok_md_100 : FOK RX12 (100, (12, 31)) := ⟨_, _, _, rfl, by decide, gk_5 195 rfl rfl⟩
theorem kok_md_554 : KOK RX12 (554, (1, vL (5))) := ⟨_, rfl, gk_8 89 rfl rfl⟩
theorem kok_md_556 : KOK RX12 (556, (1, vL (-480))) := ⟨_, rfl, gk_8 94 rfl rfl⟩
theorem fok_md_561 : FOK RX12 (561, (12, 70)) := ⟨_, _, _, rfl, by decide, gk_5 234 rfl rfl⟩
theorem fok_md_179 : FOK RX12 (179, (12, 67)) := ⟨_, _, _, rfl, by decide, gk_5 231 rfl rfl⟩
theorem fok_md_565 : FOK RX12 (565, (12, 69)) := ⟨_, _, _, rfl, by decide, gk_5 233 rfl rfl⟩
theorem fok_md_182 : FOK RX12 (182, (12, 68)) := ⟨_, _, _, rfl, by decide, gk_5 232 rfl rfl⟩
theorem td_js_coder : (parseMethodDescriptor yJ0_coder_7d493.desc).map (fun d => d.parameters.length) = some 0 := by decide +kernel
theorem tc_js_coder : Cond.code yJ0_coder_7d493 cJ0_coder_7d493 1 (some .byte) ∈ gtb := gk_3 61 rfl rfl
theorem ti_js_coder : Cond.instanceMethod yJ0_coder_7d493 ∈ gtb := gk_3 59 rfl rfl
theorem tv_js_coder : Cond.selects RJ0 yJ0_coder_7d493 yJ0_coder_7d493 ∈ gtb := gk_3 60 rfl rfl
theorem td_js_length : (parseMethodDescriptor yJ0_length_8abf5.desc).map (fun d => d.parameters.length) = some 0 := by decide +kernel
theorem tc_js_length : Cond.code yJ0_length_8abf5 cJ0_length_8abf5 1 (some .int) ∈ gtb := gk_3 57 rfl rfl
theorem ti_js_length : Cond.instanceMethod yJ0_length_8abf5 ∈ gtb := gk_3 55 rfl rfl
theorem tv_js_length : Cond.selects RJ0 yJ0_length_8abf5 yJ0_length_8abf5 ∈ gtb := gk_3 56 rfl rfl
theorem td_js_isLatin1 : (parseMethodDescriptor yJ0_isLatin1_aae02.desc).map (fun d => d.parameters.length) = some 0 := by decide +kernel
theorem tc_js_isLatin1 : Cond.code yJ0_isLatin1_aae02 cJ0_isLatin1_aae02 1 (some .boolean) ∈ gtb := gk_3 71 rfl rfl
theorem ti_js_isLatin1 : Cond.instanceMethod yJ0_isLatin1_aae02 ∈ gtb := gk_3 69 rfl rfl
theorem tv_js_isLatin1 : Cond.selects RJ0 yJ0_isLatin1_aae02 yJ0_isLatin1_aae02 ∈ gtb := gk_3 70 rfl rfl
theorem td_jp_checkIndex : (parseMethodDescriptor yJ3_checkIndex_8e157.desc).map (fun d => d.parameters.length) = some 3 := by decide +kernel
theorem tc_jp_checkIndex : Cond.code yJ3_checkIndex_8e157 cJ3_checkIndex_8e157 3 (some .int) ∈ gtb := gk_3 82 rfl rfl
theorem ts_jp_checkIndex : Cond.static yJ3_checkIndex_8e157 ∈ gtb := gk_3 81 rfl rfl
theorem td_js_checkIndex : (parseMethodDescriptor yJ0_checkIndex_df160.desc).map (fun d => d.parameters.length) = some 2 := by decide +kernel
theorem tc_js_checkIndex : Cond.code yJ0_checkIndex_df160 cJ0_checkIndex_df160 2 none ∈ gtb := gk_3 77 rfl rfl
theorem ts_js_checkIndex : Cond.static yJ0_checkIndex_df160 ∈ gtb := gk_3 76 rfl rfl
theorem td_jl_charAt : (parseMethodDescriptor yJ1_charAt_3b067.desc).map (fun d => d.parameters.length) = some 2 := by decide +kernel
theorem tc_jl_charAt : Cond.code yJ1_charAt_3b067 cJ1_charAt_3b067 2 (some .char) ∈ gtb := gk_3 74 rfl rfl
theorem ts_jl_charAt : Cond.static yJ1_charAt_3b067 ∈ gtb := gk_3 73 rfl rfl
theorem td_js_charAt : (parseMethodDescriptor yJ0_charAt_5068e.desc).map (fun d => d.parameters.length) = some 1 := by decide +kernel
theorem tc_js_charAt : Cond.code yJ0_charAt_5068e cJ0_charAt_5068e 2 (some .char) ∈ gtb := gk_3 67 rfl rfl
theorem ti_js_charAt : Cond.instanceMethod yJ0_charAt_5068e ∈ gtb := gk_3 65 rfl rfl
theorem tv_js_charAt : Cond.selects RJ0 yJ0_charAt_5068e yJ0_charAt_5068e ∈ gtb := gk_3 66 rfl rfl
theorem td_ji_bitCount : (parseMethodDescriptor yJ6_bitCount_0f7a4.desc).map (fun d => d.parameters.length) = some 1 := by decide +kernel
theorem tc_ji_bitCount : Cond.code yJ6_bitCount_0f7a4 cJ6_bitCount_0f7a4 1 (some .int) ∈ gtb := gk_4 201 rfl rfl
theorem ts_ji_bitCount : Cond.static yJ6_bitCount_0f7a4 ∈ gtb := gk_4 200 rfl rfl
theorem td_fm_fits : (parseMethodDescriptor yX0_fits.desc).map (fun d => d.parameters.length) = some 4 := by decide +kernel
theorem tc_fm_fits : Cond.code yX0_fits cX0_fits 4 (some .boolean) ∈ gtb := gk_5 63 rfl rfl
theorem ts_fm_fits : Cond.static yX0_fits ∈ gtb := gk_5 62 rfl rfl
theorem td_fm_worthWith : (parseMethodDescriptor yX0_worthWith.desc).map (fun d => d.parameters.length) = some 3 := by decide +kernel
theorem tc_fm_worthWith : Cond.code yX0_worthWith cX0_worthWith 4 (some .int) ∈ gtb := gk_5 67 rfl rfl
theorem ti_fm_worthWith : Cond.instanceMethod yX0_worthWith ∈ gtb := gk_5 66 rfl rfl
theorem tv_fm_worthWith : Cond.selects RX0 yX0_worthWith yX0_worthWith ∈ gtb := gp_3 1 rfl rfl
theorem td_fm_lay : (parseMethodDescriptor yX0_lay.desc).map (fun d => d.parameters.length) = some 2 := by decide +kernel
theorem tc_fm_lay : Cond.code yX0_lay cX0_lay 6 none ∈ gtb := gk_5 60 rfl rfl
theorem ti_fm_lay : Cond.instanceMethod yX0_lay ∈ gtb := gk_5 58 rfl rfl
theorem tv_fm_lay : Cond.selects RX0 yX0_lay yX0_lay ∈ gtb := gk_5 59 rfl rfl
theorem td_fm_worthOf : (parseMethodDescriptor yX0_worthOf.desc).map (fun d => d.parameters.length) = some 1 := by decide +kernel
theorem tc_fm_worthOf : Cond.code yX0_worthOf cX0_worthOf 2 (some .int) ∈ gtb := gk_5 85 rfl rfl
theorem ti_fm_worthOf : Cond.instanceMethod yX0_worthOf ∈ gtb := gk_5 83 rfl rfl
theorem tv_fm_worthOf : Cond.selects RX0 yX0_worthOf yX0_worthOf ∈ gtb := gk_5 84 rfl rfl
theorem td_fm_firstOf : (parseMethodDescriptor yX0_firstOf.desc).map (fun d => d.parameters.length) = some 3 := by decide +kernel
theorem tc_fm_firstOf : Cond.code yX0_firstOf cX0_firstOf 5 (some .int) ∈ gtb := gk_5 89 rfl rfl
theorem ti_fm_firstOf : Cond.instanceMethod yX0_firstOf ∈ gtb := gk_5 87 rfl rfl
theorem tv_fm_firstOf : Cond.selects RX0 yX0_firstOf yX0_firstOf ∈ gtb := gk_5 88 rfl rfl
theorem td_fm_longestWorth : (parseMethodDescriptor yX0_longestWorth.desc).map (fun d => d.parameters.length) = some 1 := by decide +kernel
theorem tc_fm_longestWorth : Cond.code yX0_longestWorth cX0_longestWorth 3 (some .int) ∈ gtb := gk_5 97 rfl rfl
theorem ti_fm_longestWorth : Cond.instanceMethod yX0_longestWorth ∈ gtb := gk_5 95 rfl rfl
theorem tv_fm_longestWorth : Cond.selects RX0 yX0_longestWorth yX0_longestWorth ∈ gtb := gk_5 96 rfl rfl
theorem td_fm_leastAlone : (parseMethodDescriptor yX0_leastAlone.desc).map (fun d => d.parameters.length) = some 3 := by decide +kernel
theorem tc_fm_leastAlone : Cond.code yX0_leastAlone cX0_leastAlone 6 (some .int) ∈ gtb := gk_5 76 rfl rfl
theorem ti_fm_leastAlone : Cond.instanceMethod yX0_leastAlone ∈ gtb := gk_5 75 rfl rfl
theorem tv_fm_leastAlone : Cond.selects RX0 yX0_leastAlone yX0_leastAlone ∈ gtb := gp_3 3 rfl rfl
theorem td_fm_gainOfPairs : (parseMethodDescriptor yX0_gainOfPairs.desc).map (fun d => d.parameters.length) = some 2 := by decide +kernel
theorem tc_fm_gainOfPairs : Cond.code yX0_gainOfPairs cX0_gainOfPairs 8 (some .int) ∈ gtb := gk_5 72 rfl rfl
theorem ti_fm_gainOfPairs : Cond.instanceMethod yX0_gainOfPairs ∈ gtb := gk_5 71 rfl rfl
theorem tv_fm_gainOfPairs : Cond.selects RX0 yX0_gainOfPairs yX0_gainOfPairs ∈ gtb := gp_3 2 rfl rfl
theorem td_fm_worthOfBasket : (parseMethodDescriptor yX0_worthOfBasket.desc).map (fun d => d.parameters.length) = some 1 := by decide +kernel
theorem tc_fm_worthOfBasket : Cond.code yX0_worthOfBasket cX0_worthOfBasket 4 (some .int) ∈ gtb := gk_5 56 rfl rfl
theorem ti_fm_worthOfBasket : Cond.instanceMethod yX0_worthOfBasket ∈ gtb := gk_5 54 rfl rfl
theorem tv_fm_worthOfBasket : Cond.selects RX0 yX0_worthOfBasket yX0_worthOfBasket ∈ gtb := gk_5 55 rfl rfl
theorem td_kp_addUp : (parseMethodDescriptor yX1_addUp.desc).map (fun d => d.parameters.length) = some 1 := by decide +kernel
theorem tc_kp_addUp : Cond.code yX1_addUp cX1_addUp 5 none ∈ gtb := gk_4 193 rfl rfl
theorem ti_kp_addUp : Cond.instanceMethod yX1_addUp ∈ gtb := gk_4 192 rfl rfl
theorem tv_kp_addUp : Cond.selects RX1 yX1_addUp yX1_addUp ∈ gtb := gp_2 8 rfl rfl
theorem td_kp_addBale : (parseMethodDescriptor yX1_addBale.desc).map (fun d => d.parameters.length) = some 3 := by decide +kernel
theorem tc_kp_addBale : Cond.code yX1_addBale cX1_addBale 10 none ∈ gtb := gk_4 198 rfl rfl
theorem ti_kp_addBale : Cond.instanceMethod yX1_addBale ∈ gtb := gk_4 197 rfl rfl
theorem tv_kp_addBale : Cond.selects RX1 yX1_addBale yX1_addBale ∈ gtb := gp_2 9 rfl rfl
theorem td_kp_choose : (parseMethodDescriptor yX1_choose.desc).map (fun d => d.parameters.length) = some 1 := by decide +kernel
theorem tc_kp_choose : Cond.code yX1_choose cX1_choose 4 none ∈ gtb := gk_4 209 rfl rfl
theorem ti_kp_choose : Cond.instanceMethod yX1_choose ∈ gtb := gk_4 208 rfl rfl
theorem tv_kp_choose : Cond.selects RX1 yX1_choose yX1_choose ∈ gtb := gp_2 10 rfl rfl
theorem td_kp_work : (parseMethodDescriptor yX1_work.desc).map (fun d => d.parameters.length) = some 2 := by decide +kernel
theorem tc_kp_work : Cond.code yX1_work cX1_work 5 none ∈ gtb := gk_4 189 rfl rfl
theorem ti_kp_work : Cond.instanceMethod yX1_work ∈ gtb := gk_4 187 rfl rfl
theorem tv_kp_work : Cond.selects RX1 yX1_work yX1_work ∈ gtb := gk_4 188 rfl rfl
theorem td_ru_clear : (parseMethodDescriptor yX2_clear.desc).map (fun d => d.parameters.length) = some 0 := by decide +kernel
theorem tc_ru_clear : Cond.code yX2_clear cX2_clear 1 none ∈ gtb := gk_3 170 rfl rfl
theorem ti_ru_clear : Cond.instanceMethod yX2_clear ∈ gtb := gk_3 168 rfl rfl
theorem tv_ru_clear : Cond.selects RX2 yX2_clear yX2_clear ∈ gtb := gk_3 169 rfl rfl
theorem td_ru_copyFrom : (parseMethodDescriptor yX2_copyFrom.desc).map (fun d => d.parameters.length) = some 1 := by decide +kernel
theorem tc_ru_copyFrom : Cond.code yX2_copyFrom cX2_copyFrom 3 none ∈ gtb := gk_4 15 rfl rfl
theorem ti_ru_copyFrom : Cond.instanceMethod yX2_copyFrom ∈ gtb := gk_4 13 rfl rfl
theorem tv_ru_copyFrom : Cond.selects RX2 yX2_copyFrom yX2_copyFrom ∈ gtb := gk_4 14 rfl rfl
theorem td_ru_beginTest : (parseMethodDescriptor yX2_beginTest.desc).map (fun d => d.parameters.length) = some 0 := by decide +kernel
theorem tc_ru_beginTest : Cond.code yX2_beginTest cX2_beginTest 1 none ∈ gtb := gk_3 186 rfl rfl
theorem ti_ru_beginTest : Cond.instanceMethod yX2_beginTest ∈ gtb := gk_3 184 rfl rfl
theorem tv_ru_beginTest : Cond.selects RX2 yX2_beginTest yX2_beginTest ∈ gtb := gk_3 185 rfl rfl
theorem td_ru_beginClause : (parseMethodDescriptor yX2_beginClause.desc).map (fun d => d.parameters.length) = some 1 := by decide +kernel
theorem tc_ru_beginClause : Cond.code yX2_beginClause cX2_beginClause 2 none ∈ gtb := gk_3 182 rfl rfl
theorem ti_ru_beginClause : Cond.instanceMethod yX2_beginClause ∈ gtb := gk_3 180 rfl rfl
theorem tv_ru_beginClause : Cond.selects RX2 yX2_beginClause yX2_beginClause ∈ gtb := gk_3 181 rfl rfl
theorem td_ru_append : (parseMethodDescriptor yX2_append.desc).map (fun d => d.parameters.length) = some 2 := by decide +kernel
theorem tc_ru_append : Cond.code yX2_append cX2_append 3 none ∈ gtb := gk_3 220 rfl rfl
theorem ti_ru_append : Cond.instanceMethod yX2_append ∈ gtb := gk_3 218 rfl rfl
theorem tv_ru_append : Cond.selects RX2 yX2_append yX2_append ∈ gtb := gk_3 219 rfl rfl
theorem td_ru_join : (parseMethodDescriptor yX2_join.desc).map (fun d => d.parameters.length) = some 3 := by decide +kernel
theorem tc_ru_join : Cond.code yX2_join cX2_join 5 (some .long) ∈ gtb := gk_4 123 rfl rfl
theorem ts_ru_join : Cond.static yX2_join ∈ gtb := gk_4 122 rfl rfl
theorem td_ru_run : (parseMethodDescriptor yX2_run.desc).map (fun d => d.parameters.length) = some 3 := by decide +kernel
theorem tc_ru_run : Cond.code yX2_run cX2_run 8 (some .long) ∈ gtb := gk_4 120 rfl rfl
theorem ti_ru_run : Cond.instanceMethod yX2_run ∈ gtb := gk_4 119 rfl rfl
theorem tv_ru_run : Cond.selects RX2 yX2_run yX2_run ∈ gtb := gp_2 6 rfl rfl
theorem td_ru_holds : (parseMethodDescriptor yX2_holds.desc).map (fun d => d.parameters.length) = some 2 := by decide +kernel
theorem tc_ru_holds : Cond.code yX2_holds cX2_holds 3 (some .boolean) ∈ gtb := gk_4 116 rfl rfl
theorem ti_ru_holds : Cond.instanceMethod yX2_holds ∈ gtb := gk_4 115 rfl rfl
theorem tv_ru_holds : Cond.selects RX2 yX2_holds yX2_holds ∈ gtb := gp_2 5 rfl rfl
theorem td_ru_clauseFor : (parseMethodDescriptor yX2_clauseFor.desc).map (fun d => d.parameters.length) = some 1 := by decide +kernel
theorem tc_ru_clauseFor : Cond.code yX2_clauseFor cX2_clauseFor 3 (some .int) ∈ gtb := gk_4 112 rfl rfl
theorem ti_ru_clauseFor : Cond.instanceMethod yX2_clauseFor ∈ gtb := gk_4 110 rfl rfl
theorem tv_ru_clauseFor : Cond.selects RX2 yX2_clauseFor yX2_clauseFor ∈ gtb := gk_4 111 rfl rfl
theorem td_ru_sumOf : (parseMethodDescriptor yX2_sumOf.desc).map (fun d => d.parameters.length) = some 2 := by decide +kernel
theorem tc_ru_sumOf : Cond.code yX2_sumOf cX2_sumOf 3 (some .long) ∈ gtb := gk_4 127 rfl rfl
theorem ti_ru_sumOf : Cond.instanceMethod yX2_sumOf ∈ gtb := gk_4 125 rfl rfl
theorem tv_ru_sumOf : Cond.selects RX2 yX2_sumOf yX2_sumOf ∈ gtb := gk_4 126 rfl rfl
theorem td_ru_gives : (parseMethodDescriptor yX2_gives.desc).map (fun d => d.parameters.length) = some 1 := by decide +kernel
theorem tc_ru_gives : Cond.code yX2_gives cX2_gives 3 (some .boolean) ∈ gtb := gk_4 131 rfl rfl
theorem ti_ru_gives : Cond.instanceMethod yX2_gives ∈ gtb := gk_4 129 rfl rfl
theorem tv_ru_gives : Cond.selects RX2 yX2_gives yX2_gives ∈ gtb := gk_4 130 rfl rfl
theorem td_tx_next : (parseMethodDescriptor yX8_next.desc).map (fun d => d.parameters.length) = some 0 := by decide +kernel
theorem tc_tx_next : Cond.code yX8_next cX8_next 1 (some .int) ∈ gtb := gk_3 48 rfl rfl
theorem ti_tx_next : Cond.instanceMethod yX8_next ∈ gtb := gk_3 46 rfl rfl
theorem tv_tx_next : Cond.selects RX8 yX8_next yX8_next ∈ gtb := gk_3 47 rfl rfl
theorem td_tx_readWord : (parseMethodDescriptor yX8_readWord.desc).map (fun d => d.parameters.length) = some 1 := by decide +kernel
theorem tc_tx_readWord : Cond.code yX8_readWord cX8_readWord 7 (some .int) ∈ gtb := gk_3 53 rfl rfl
theorem ti_tx_readWord : Cond.instanceMethod yX8_readWord ∈ gtb := gk_3 51 rfl rfl
theorem tv_tx_readWord : Cond.selects RX8 yX8_readWord yX8_readWord ∈ gtb := gk_3 52 rfl rfl
theorem td_tx_fault : (parseMethodDescriptor yX8_fault.desc).map (fun d => d.parameters.length) = some 2 := by decide +kernel
theorem tc_tx_fault : Cond.code yX8_fault cX8_fault 2 (some .int) ∈ gtb := gk_3 104 rfl rfl
theorem ts_tx_fault : Cond.static yX8_fault ∈ gtb := gk_3 103 rfl rfl
theorem td_tx_peek : (parseMethodDescriptor yX8_peek.desc).map (fun d => d.parameters.length) = some 0 := by decide +kernel
theorem tc_tx_peek : Cond.code yX8_peek cX8_peek 1 (some .int) ∈ gtb := gk_3 133 rfl rfl
theorem ti_tx_peek : Cond.instanceMethod yX8_peek ∈ gtb := gk_3 131 rfl rfl
theorem tv_tx_peek : Cond.selects RX8 yX8_peek yX8_peek ∈ gtb := gk_3 132 rfl rfl
theorem td_tx_step : (parseMethodDescriptor yX8_step.desc).map (fun d => d.parameters.length) = some 0 := by decide +kernel
theorem tc_tx_step : Cond.code yX8_step cX8_step 1 none ∈ gtb := gk_3 137 rfl rfl
theorem ti_tx_step : Cond.instanceMethod yX8_step ∈ gtb := gk_3 135 rfl rfl
theorem tv_tx_step : Cond.selects RX8 yX8_step yX8_step ∈ gtb := gk_3 136 rfl rfl
theorem td_rr_readOpening : (parseMethodDescriptor yX3_readOpening.desc).map (fun d => d.parameters.length) = some 0 := by decide +kernel
theorem tc_rr_readOpening : Cond.code yX3_readOpening cX3_readOpening 2 (some .int) ∈ gtb := gk_3 198 rfl rfl
theorem ti_rr_readOpening : Cond.instanceMethod yX3_readOpening ∈ gtb := gk_3 197 rfl rfl
theorem tv_rr_readOpening : Cond.selects RX3 yX3_readOpening yX3_readOpening ∈ gtb := gp_1 6 rfl rfl
theorem td_rr_hold : (parseMethodDescriptor yX3_hold.desc).map (fun d => d.parameters.length) = some 1 := by decide +kernel
theorem tc_rr_hold : Cond.code yX3_hold cX3_hold 2 none ∈ gtb := gk_3 205 rfl rfl
theorem ti_rr_hold : Cond.instanceMethod yX3_hold ∈ gtb := gk_3 204 rfl rfl
theorem tv_rr_hold : Cond.selects RX3 yX3_hold yX3_hold ∈ gtb := gp_1 7 rfl rfl
theorem td_rr_readOpenings : (parseMethodDescriptor yX3_readOpenings.desc).map (fun d => d.parameters.length) = some 0 := by decide +kernel
theorem tc_rr_readOpenings : Cond.code yX3_readOpenings cX3_readOpenings 4 (some .int) ∈ gtb := gk_3 194 rfl rfl
theorem ti_rr_readOpenings : Cond.instanceMethod yX3_readOpenings ∈ gtb := gk_3 193 rfl rfl
theorem tv_rr_readOpenings : Cond.selects RX3 yX3_readOpenings yX3_readOpenings ∈ gtb := gp_1 5 rfl rfl
theorem td_tx_readNumber : (parseMethodDescriptor yX8_readNumber.desc).map (fun d => d.parameters.length) = some 0 := by decide +kernel
theorem tc_tx_readNumber : Cond.code yX8_readNumber cX8_readNumber 3 (some .int) ∈ gtb := gk_3 112 rfl rfl
theorem ti_tx_readNumber : Cond.instanceMethod yX8_readNumber ∈ gtb := gk_3 110 rfl rfl
theorem tv_tx_readNumber : Cond.selects RX8 yX8_readNumber yX8_readNumber ∈ gtb := gk_3 111 rfl rfl
theorem td_rr_readValue : (parseMethodDescriptor yX3_readValue.desc).map (fun d => d.parameters.length) = some 0 := by decide +kernel
theorem tc_rr_readValue : Cond.code yX3_readValue cX3_readValue 4 (some .int) ∈ gtb := gk_3 213 rfl rfl
theorem ti_rr_readValue : Cond.instanceMethod yX3_readValue ∈ gtb := gk_3 212 rfl rfl
theorem tv_rr_readValue : Cond.selects RX3 yX3_readValue yX3_readValue ∈ gtb := gp_1 9 rfl rfl
theorem td_rr_readBetween : (parseMethodDescriptor yX3_readBetween.desc).map (fun d => d.parameters.length) = some 0 := by decide +kernel
theorem tc_rr_readBetween : Cond.code yX3_readBetween cX3_readBetween 2 (some .int) ∈ gtb := gk_3 224 rfl rfl
theorem ti_rr_readBetween : Cond.instanceMethod yX3_readBetween ∈ gtb := gk_3 223 rfl rfl
theorem tv_rr_readBetween : Cond.selects RX3 yX3_readBetween yX3_readBetween ∈ gtb := gp_1 10 rfl rfl
theorem td_rr_readSum : (parseMethodDescriptor yX3_readSum.desc).map (fun d => d.parameters.length) = some 0 := by decide +kernel
theorem tc_rr_readSum : Cond.code yX3_readSum cX3_readSum 6 (some .int) ∈ gtb := gk_3 209 rfl rfl
theorem ti_rr_readSum : Cond.instanceMethod yX3_readSum ∈ gtb := gk_3 208 rfl rfl
theorem tv_rr_readSum : Cond.selects RX3 yX3_readSum yX3_readSum ∈ gtb := gp_1 8 rfl rfl
theorem td_rr_readSign : (parseMethodDescriptor yX3_readSign.desc).map (fun d => d.parameters.length) = some 0 := by decide +kernel
theorem tc_rr_readSign : Cond.code yX3_readSign cX3_readSign 4 (some .int) ∈ gtb := gk_3 228 rfl rfl
theorem ti_rr_readSign : Cond.instanceMethod yX3_readSign ∈ gtb := gk_3 227 rfl rfl
theorem tv_rr_readSign : Cond.selects RX3 yX3_readSign yX3_readSign ∈ gtb := gp_1 11 rfl rfl
theorem td_rr_settleNots : (parseMethodDescriptor yX3_settleNots.desc).map (fun d => d.parameters.length) = some 0 := by decide +kernel
theorem tc_rr_settleNots : Cond.code yX3_settleNots cX3_settleNots 2 none ∈ gtb := gk_3 236 rfl rfl
theorem ti_rr_settleNots : Cond.instanceMethod yX3_settleNots ∈ gtb := gk_3 235 rfl rfl
theorem tv_rr_settleNots : Cond.selects RX3 yX3_settleNots yX3_settleNots ∈ gtb := gp_1 13 rfl rfl
theorem td_rr_settle : (parseMethodDescriptor yX3_settle.desc).map (fun d => d.parameters.length) = some 1 := by decide +kernel
theorem tc_rr_settle : Cond.code yX3_settle cX3_settle 4 none ∈ gtb := gk_4 0 rfl rfl
theorem ti_rr_settle : Cond.instanceMethod yX3_settle ∈ gtb := gk_3 239 rfl rfl
theorem tv_rr_settle : Cond.selects RX3 yX3_settle yX3_settle ∈ gtb := gp_1 14 rfl rfl
theorem td_rr_closeBrackets : (parseMethodDescriptor yX3_closeBrackets.desc).map (fun d => d.parameters.length) = some 0 := by decide +kernel
theorem tc_rr_closeBrackets : Cond.code yX3_closeBrackets cX3_closeBrackets 2 none ∈ gtb := gk_3 232 rfl rfl
theorem ti_rr_closeBrackets : Cond.instanceMethod yX3_closeBrackets ∈ gtb := gk_3 231 rfl rfl
theorem tv_rr_closeBrackets : Cond.selects RX3 yX3_closeBrackets yX3_closeBrackets ∈ gtb := gp_1 12 rfl rfl
theorem td_tx_byteAt : (parseMethodDescriptor yX8_byteAt.desc).map (fun d => d.parameters.length) = some 1 := by decide +kernel
theorem tc_tx_byteAt : Cond.code yX8_byteAt cX8_byteAt 2 (some .int) ∈ gtb := gk_4 9 rfl rfl
theorem ti_tx_byteAt : Cond.instanceMethod yX8_byteAt ∈ gtb := gk_4 7 rfl rfl
theorem tv_tx_byteAt : Cond.selects RX8 yX8_byteAt yX8_byteAt ∈ gtb := gk_4 8 rfl rfl
theorem td_rr_clauseEnd : (parseMethodDescriptor yX3_clauseEnd.desc).map (fun d => d.parameters.length) = some 1 := by decide +kernel
theorem tc_rr_clauseEnd : Cond.code yX3_clauseEnd cX3_clauseEnd 3 (some .int) ∈ gtb := gk_4 5 rfl rfl
theorem ti_rr_clauseEnd : Cond.instanceMethod yX3_clauseEnd ∈ gtb := gk_4 4 rfl rfl
theorem tv_rr_clauseEnd : Cond.selects RX3 yX3_clauseEnd yX3_clauseEnd ∈ gtb := gp_1 15 rfl rfl
theorem td_rr_readTest : (parseMethodDescriptor yX3_readTest.desc).map (fun d => d.parameters.length) = some 0 := by decide +kernel
theorem tc_rr_readTest : Cond.code yX3_readTest cX3_readTest 5 (some .int) ∈ gtb := gk_3 190 rfl rfl
theorem ti_rr_readTest : Cond.instanceMethod yX3_readTest ∈ gtb := gk_3 189 rfl rfl
theorem tv_rr_readTest : Cond.selects RX3 yX3_readTest yX3_readTest ∈ gtb := gp_1 4 rfl rfl
theorem td_rr_readClause : (parseMethodDescriptor yX3_readClause.desc).map (fun d => d.parameters.length) = some 1 := by decide +kernel
theorem tc_rr_readClause : Cond.code yX3_readClause cX3_readClause 5 (some .int) ∈ gtb := gk_3 174 rfl rfl
theorem ti_rr_readClause : Cond.instanceMethod yX3_readClause ∈ gtb := gk_3 173 rfl rfl
theorem tv_rr_readClause : Cond.selects RX3 yX3_readClause yX3_readClause ∈ gtb := gp_1 3 rfl rfl
theorem td_rr_read : (parseMethodDescriptor yX3_read.desc).map (fun d => d.parameters.length) = some 0 := by decide +kernel
theorem tc_rr_read : Cond.code yX3_read cX3_read 3 (some .int) ∈ gtb := gk_3 166 rfl rfl
theorem ti_rr_read : Cond.instanceMethod yX3_read ∈ gtb := gk_3 164 rfl rfl
theorem tv_rr_read : Cond.selects RX3 yX3_read yX3_read ∈ gtb := gk_3 165 rfl rfl
theorem td_sp_coinsBy : (parseMethodDescriptor yX4_coinsBy.desc).map (fun d => d.parameters.length) = some 3 := by decide +kernel
theorem tc_sp_coinsBy : Cond.code yX4_coinsBy cX4_coinsBy 6 (some .int) ∈ gtb := gk_5 117 rfl rfl
theorem ti_sp_coinsBy : Cond.instanceMethod yX4_coinsBy ∈ gtb := gk_5 116 rfl rfl
theorem tv_sp_coinsBy : Cond.selects RX4 yX4_coinsBy yX4_coinsBy ∈ gtb := gp_3 5 rfl rfl
theorem td_sp_addWeek : (parseMethodDescriptor yX4_addWeek.desc).map (fun d => d.parameters.length) = some 2 := by decide +kernel
theorem tc_sp_addWeek : Cond.code yX4_addWeek cX4_addWeek 6 none ∈ gtb := gk_5 113 rfl rfl
theorem ti_sp_addWeek : Cond.instanceMethod yX4_addWeek ∈ gtb := gk_5 112 rfl rfl
theorem tv_sp_addWeek : Cond.selects RX4 yX4_addWeek yX4_addWeek ∈ gtb := gp_3 4 rfl rfl
theorem td_sp_work : (parseMethodDescriptor yX4_work.desc).map (fun d => d.parameters.length) = some 4 := by decide +kernel
theorem tc_sp_work : Cond.code yX4_work cX4_work 7 none ∈ gtb := gk_5 109 rfl rfl
theorem ti_sp_work : Cond.instanceMethod yX4_work ∈ gtb := gk_5 107 rfl rfl
theorem tv_sp_work : Cond.selects RX4 yX4_work yX4_work ∈ gtb := gk_5 108 rfl rfl
theorem td_sh_clear : (parseMethodDescriptor yX5_clear.desc).map (fun d => d.parameters.length) = some 0 := by decide +kernel
theorem tc_sh_clear : Cond.code yX5_clear cX5_clear 1 none ∈ gtb := gk_3 40 rfl rfl
theorem ti_sh_clear : Cond.instanceMethod yX5_clear ∈ gtb := gk_3 38 rfl rfl
theorem tv_sh_clear : Cond.selects RX5 yX5_clear yX5_clear ∈ gtb := gk_3 39 rfl rfl
theorem td_sh_copyFrom : (parseMethodDescriptor yX5_copyFrom.desc).map (fun d => d.parameters.length) = some 1 := by decide +kernel
theorem tc_sh_copyFrom : Cond.code yX5_copyFrom cX5_copyFrom 3 none ∈ gtb := gk_3 145 rfl rfl
theorem ti_sh_copyFrom : Cond.instanceMethod yX5_copyFrom ∈ gtb := gk_3 143 rfl rfl
theorem tv_sh_copyFrom : Cond.selects RX5 yX5_copyFrom yX5_copyFrom ∈ gtb := gk_3 144 rfl rfl
theorem td_sh_has : (parseMethodDescriptor yX5_has.desc).map (fun d => d.parameters.length) = some 1 := by decide +kernel
theorem tc_sh_has : Cond.code yX5_has cX5_has 2 (some .boolean) ∈ gtb := gk_3 125 rfl rfl
theorem ti_sh_has : Cond.instanceMethod yX5_has ∈ gtb := gk_3 123 rfl rfl
theorem tv_sh_has : Cond.selects RX5 yX5_has yX5_has ∈ gtb := gk_3 124 rfl rfl
theorem td_sh_hasEnd : (parseMethodDescriptor yX5_hasEnd.desc).map (fun d => d.parameters.length) = some 1 := by decide +kernel
theorem tc_sh_hasEnd : Cond.code yX5_hasEnd cX5_hasEnd 2 (some .boolean) ∈ gtb := gk_4 32 rfl rfl
theorem ti_sh_hasEnd : Cond.instanceMethod yX5_hasEnd ∈ gtb := gk_4 30 rfl rfl
theorem tv_sh_hasEnd : Cond.selects RX5 yX5_hasEnd yX5_hasEnd ∈ gtb := gk_4 31 rfl rfl
theorem td_sh_eighthsLeft : (parseMethodDescriptor yX5_eighthsLeft.desc).map (fun d => d.parameters.length) = some 0 := by decide +kernel
theorem tc_sh_eighthsLeft : Cond.code yX5_eighthsLeft cX5_eighthsLeft 3 (some .int) ∈ gtb := gk_4 170 rfl rfl
theorem ti_sh_eighthsLeft : Cond.instanceMethod yX5_eighthsLeft ∈ gtb := gk_4 168 rfl rfl
theorem tv_sh_eighthsLeft : Cond.selects RX5 yX5_eighthsLeft yX5_eighthsLeft ∈ gtb := gk_4 169 rfl rfl
theorem td_sh_flawsWithin : (parseMethodDescriptor yX5_flawsWithin.desc).map (fun d => d.parameters.length) = some 2 := by decide +kernel
theorem tc_sh_flawsWithin : Cond.code yX5_flawsWithin cX5_flawsWithin 5 (some .int) ∈ gtb := gk_4 24 rfl rfl
theorem ti_sh_flawsWithin : Cond.instanceMethod yX5_flawsWithin ∈ gtb := gk_4 22 rfl rfl
theorem tv_sh_flawsWithin : Cond.selects RX5 yX5_flawsWithin yX5_flawsWithin ∈ gtb := gk_4 23 rfl rfl
theorem td_sh_nearestFlaw : (parseMethodDescriptor yX5_nearestFlaw.desc).map (fun d => d.parameters.length) = some 1 := by decide +kernel
theorem tc_sh_nearestFlaw : Cond.code yX5_nearestFlaw cX5_nearestFlaw 4 (some .int) ∈ gtb := gk_4 28 rfl rfl
theorem ti_sh_nearestFlaw : Cond.instanceMethod yX5_nearestFlaw ∈ gtb := gk_4 26 rfl rfl
theorem tv_sh_nearestFlaw : Cond.selects RX5 yX5_nearestFlaw yX5_nearestFlaw ∈ gtb := gk_4 27 rfl rfl
theorem td_sh_restBehind : (parseMethodDescriptor yX5_restBehind.desc).map (fun d => d.parameters.length) = some 3 := by decide +kernel
theorem tc_sh_restBehind : Cond.code yX5_restBehind cX5_restBehind 4 (some .int) ∈ gtb := gk_4 53 rfl rfl
theorem ti_sh_restBehind : Cond.instanceMethod yX5_restBehind ∈ gtb := gk_4 51 rfl rfl
theorem tv_sh_restBehind : Cond.selects RX5 yX5_restBehind yX5_restBehind ∈ gtb := gk_4 52 rfl rfl
theorem td_sh_shorten : (parseMethodDescriptor yX5_shorten.desc).map (fun d => d.parameters.length) = some 2 := by decide +kernel
theorem tc_sh_shorten : Cond.code yX5_shorten cX5_shorten 6 none ∈ gtb := gk_4 60 rfl rfl
theorem ti_sh_shorten : Cond.instanceMethod yX5_shorten ∈ gtb := gk_4 58 rfl rfl
theorem tv_sh_shorten : Cond.selects RX5 yX5_shorten yX5_shorten ∈ gtb := gk_4 59 rfl rfl
theorem td_sh_dropsOf : (parseMethodDescriptor yX5_dropsOf.desc).map (fun d => d.parameters.length) = some 2 := by decide +kernel
theorem tc_sh_dropsOf : Cond.code yX5_dropsOf cX5_dropsOf 5 (some .int) ∈ gtb := gk_5 24 rfl rfl
theorem ti_sh_dropsOf : Cond.instanceMethod yX5_dropsOf ∈ gtb := gk_5 22 rfl rfl
theorem tv_sh_dropsOf : Cond.selects RX5 yX5_dropsOf yX5_dropsOf ∈ gtb := gk_5 23 rfl rfl
theorem td_sh_dropsOfLot : (parseMethodDescriptor yX5_dropsOfLot.desc).map (fun d => d.parameters.length) = some 2 := by decide +kernel
theorem tc_sh_dropsOfLot : Cond.code yX5_dropsOfLot cX5_dropsOfLot 5 (some .int) ∈ gtb := gk_5 35 rfl rfl
theorem ti_sh_dropsOfLot : Cond.instanceMethod yX5_dropsOfLot ∈ gtb := gk_5 33 rfl rfl
theorem tv_sh_dropsOfLot : Cond.selects RX5 yX5_dropsOfLot yX5_dropsOfLot ∈ gtb := gk_5 34 rfl rfl
theorem td_sh_hidesFlaws : (parseMethodDescriptor yX5_hidesFlaws.desc).map (fun d => d.parameters.length) = some 4 := by decide +kernel
theorem tc_sh_hidesFlaws : Cond.code yX5_hidesFlaws cX5_hidesFlaws 9 (some .boolean) ∈ gtb := gk_5 48 rfl rfl
theorem ti_sh_hidesFlaws : Cond.instanceMethod yX5_hidesFlaws ∈ gtb := gk_5 46 rfl rfl
theorem tv_sh_hidesFlaws : Cond.selects RX5 yX5_hidesFlaws yX5_hidesFlaws ∈ gtb := gk_5 47 rfl rfl
theorem td_sr_most : (parseMethodDescriptor yX6_most.desc).map (fun d => d.parameters.length) = some 2 := by decide +kernel
theorem tc_sr_most : Cond.code yX6_most cX6_most 3 (some .int) ∈ gtb := gk_3 119 rfl rfl
theorem ti_sr_most : Cond.instanceMethod yX6_most ∈ gtb := gk_3 118 rfl rfl
theorem tv_sr_most : Cond.selects RX6 yX6_most yX6_most ∈ gtb := gp_1 1 rfl rfl
theorem td_sr_keep : (parseMethodDescriptor yX6_keep.desc).map (fun d => d.parameters.length) = some 2 := by decide +kernel
theorem tc_sr_keep : Cond.code yX6_keep cX6_keep 3 none ∈ gtb := gk_3 129 rfl rfl
theorem ti_sr_keep : Cond.instanceMethod yX6_keep ∈ gtb := gk_3 128 rfl rfl
theorem tv_sr_keep : Cond.selects RX6 yX6_keep yX6_keep ∈ gtb := gp_1 2 rfl rfl
theorem td_sr_readClause : (parseMethodDescriptor yX6_readClause.desc).map (fun d => d.parameters.length) = some 1 := by decide +kernel
theorem tc_sr_readClause : Cond.code yX6_readClause cX6_readClause 6 (some .int) ∈ gtb := gk_3 44 rfl rfl
theorem ti_sr_readClause : Cond.instanceMethod yX6_readClause ∈ gtb := gk_3 43 rfl rfl
theorem tv_sr_readClause : Cond.selects RX6 yX6_readClause yX6_readClause ∈ gtb := gp_1 0 rfl rfl
theorem td_sr_read : (parseMethodDescriptor yX6_read.desc).map (fun d => d.parameters.length) = some 0 := by decide +kernel
theorem tc_sr_read : Cond.code yX6_read cX6_read 4 (some .int) ∈ gtb := gk_3 36 rfl rfl
theorem ti_sr_read : Cond.instanceMethod yX6_read ∈ gtb := gk_3 34 rfl rfl
theorem tv_sr_read : Cond.selects RX6 yX6_read yX6_read ∈ gtb := gk_3 35 rfl rfl
theorem td_td_copyFrom : (parseMethodDescriptor yX9_copyFrom.desc).map (fun d => d.parameters.length) = some 1 := by decide +kernel
theorem tc_td_copyFrom : Cond.code yX9_copyFrom cX9_copyFrom 3 none ∈ gtb := gk_4 165 rfl rfl
theorem ti_td_copyFrom : Cond.instanceMethod yX9_copyFrom ∈ gtb := gk_4 163 rfl rfl
theorem tv_td_copyFrom : Cond.selects RX9 yX9_copyFrom yX9_copyFrom ∈ gtb := gk_4 164 rfl rfl
theorem td_sd_copyFrom : (parseMethodDescriptor yX7_copyFrom.desc).map (fun d => d.parameters.length) = some 1 := by decide +kernel
theorem tc_sd_copyFrom : Cond.code yX7_copyFrom cX7_copyFrom 3 none ∈ gtb := gk_4 161 rfl rfl
theorem ti_sd_copyFrom : Cond.instanceMethod yX7_copyFrom ∈ gtb := gk_4 159 rfl rfl
theorem tv_sd_copyFrom : Cond.selects RX7 yX7_copyFrom yX7_copyFrom ∈ gtb := gk_4 160 rfl rfl
theorem td_td_clearEntries : (parseMethodDescriptor yX9_clearEntries.desc).map (fun d => d.parameters.length) = some 0 := by decide +kernel
theorem tc_td_clearEntries : Cond.code yX9_clearEntries cX9_clearEntries 2 none ∈ gtb := gk_3 153 rfl rfl
theorem ti_td_clearEntries : Cond.instanceMethod yX9_clearEntries ∈ gtb := gk_3 151 rfl rfl
theorem tv_td_clearEntries : Cond.selects RX9 yX9_clearEntries yX9_clearEntries ∈ gtb := gk_3 152 rfl rfl
theorem td_td_clear : (parseMethodDescriptor yX9_clear.desc).map (fun d => d.parameters.length) = some 0 := by decide +kernel
theorem tc_td_clear : Cond.code yX9_clear cX9_clear 2 none ∈ gtb := gk_3 149 rfl rfl
theorem ti_td_clear : Cond.instanceMethod yX9_clear ∈ gtb := gk_3 147 rfl rfl
theorem tv_td_clear : Cond.selects RX9 yX9_clear yX9_clear ∈ gtb := gk_3 148 rfl rfl
theorem td_sd_clearCounts : (parseMethodDescriptor yX7_clearCounts.desc).map (fun d => d.parameters.length) = some 0 := by decide +kernel
theorem tc_sd_clearCounts : Cond.code yX7_clearCounts cX7_clearCounts 1 none ∈ gtb := gk_3 157 rfl rfl
theorem ti_sd_clearCounts : Cond.instanceMethod yX7_clearCounts ∈ gtb := gk_3 155 rfl rfl
theorem tv_sd_clearCounts : Cond.selects RX7 yX7_clearCounts yX7_clearCounts ∈ gtb := gk_3 156 rfl rfl
theorem td_sd_open : (parseMethodDescriptor yX7_open.desc).map (fun d => d.parameters.length) = some 1 := by decide +kernel
theorem tc_sd_open : Cond.code yX7_open cX7_open 2 none ∈ gtb := gk_3 141 rfl rfl
theorem ti_sd_open : Cond.instanceMethod yX7_open ∈ gtb := gk_3 139 rfl rfl
theorem tv_sd_open : Cond.selects RX7 yX7_open yX7_open ∈ gtb := gk_3 140 rfl rfl
theorem td_sd_hasEnd : (parseMethodDescriptor yX7_hasEnd.desc).map (fun d => d.parameters.length) = some 1 := by decide +kernel
theorem tc_sd_hasEnd : Cond.code yX7_hasEnd cX7_hasEnd 2 (some .boolean) ∈ gtb := gk_4 80 rfl rfl
theorem ti_sd_hasEnd : Cond.instanceMethod yX7_hasEnd ∈ gtb := gk_4 78 rfl rfl
theorem tv_sd_hasEnd : Cond.selects RX7 yX7_hasEnd yX7_hasEnd ∈ gtb := gk_4 79 rfl rfl
theorem td_sd_putIntoBasket : (parseMethodDescriptor yX7_putIntoBasket.desc).map (fun d => d.parameters.length) = some 1 := by decide +kernel
theorem tc_sd_putIntoBasket : Cond.code yX7_putIntoBasket cX7_putIntoBasket 3 none ∈ gtb := gk_4 72 rfl rfl
theorem ti_sd_putIntoBasket : Cond.instanceMethod yX7_putIntoBasket ∈ gtb := gk_4 70 rfl rfl
theorem tv_sd_putIntoBasket : Cond.selects RX7 yX7_putIntoBasket yX7_putIntoBasket ∈ gtb := gk_4 71 rfl rfl
theorem td_sd_takeOutOfBasket : (parseMethodDescriptor yX7_takeOutOfBasket.desc).map (fun d => d.parameters.length) = some 1 := by decide +kernel
theorem tc_sd_takeOutOfBasket : Cond.code yX7_takeOutOfBasket cX7_takeOutOfBasket 4 (some .int) ∈ gtb := gk_4 88 rfl rfl
theorem ti_sd_takeOutOfBasket : Cond.instanceMethod yX7_takeOutOfBasket ∈ gtb := gk_4 86 rfl rfl
theorem tv_sd_takeOutOfBasket : Cond.selects RX7 yX7_takeOutOfBasket yX7_takeOutOfBasket ∈ gtb := gk_4 87 rfl rfl
theorem td_sd_sellFrom : (parseMethodDescriptor yX7_sellFrom.desc).map (fun d => d.parameters.length) = some 3 := by decide +kernel
theorem tc_sd_sellFrom : Cond.code yX7_sellFrom cX7_sellFrom 6 (some .int) ∈ gtb := gk_4 48 rfl rfl
theorem ti_sd_sellFrom : Cond.instanceMethod yX7_sellFrom ∈ gtb := gk_4 46 rfl rfl
theorem tv_sd_sellFrom : Cond.selects RX7 yX7_sellFrom yX7_sellFrom ∈ gtb := gk_4 47 rfl rfl
theorem td_sd_setWords : (parseMethodDescriptor yX7_setWords.desc).map (fun d => d.parameters.length) = some 2 := by decide +kernel
theorem tc_sd_setWords : Cond.code yX7_setWords cX7_setWords 3 none ∈ gtb := gk_4 108 rfl rfl
theorem ti_sd_setWords : Cond.instanceMethod yX7_setWords ∈ gtb := gk_4 107 rfl rfl
theorem tv_sd_setWords : Cond.selects RX7 yX7_setWords yX7_setWords ∈ gtb := gp_2 4 rfl rfl
theorem td_sd_bestBale : (parseMethodDescriptor yX7_bestBale.desc).map (fun d => d.parameters.length) = some 2 := by decide +kernel
theorem tc_sd_bestBale : Cond.code yX7_bestBale cX7_bestBale 10 (some .int) ∈ gtb := gk_4 104 rfl rfl
theorem ti_sd_bestBale : Cond.instanceMethod yX7_bestBale ∈ gtb := gk_4 103 rfl rfl
theorem tv_sd_bestBale : Cond.selects RX7 yX7_bestBale yX7_bestBale ∈ gtb := gp_2 3 rfl rfl
theorem td_sd_fillOrder : (parseMethodDescriptor yX7_fillOrder.desc).map (fun d => d.parameters.length) = some 2 := by decide +kernel
theorem tc_sd_fillOrder : Cond.code yX7_fillOrder cX7_fillOrder 5 (some .int) ∈ gtb := gk_4 100 rfl rfl
theorem ti_sd_fillOrder : Cond.instanceMethod yX7_fillOrder ∈ gtb := gk_4 98 rfl rfl
theorem tv_sd_fillOrder : Cond.selects RX7 yX7_fillOrder yX7_fillOrder ∈ gtb := gk_4 99 rfl rfl
theorem td_sd_draw : (parseMethodDescriptor yX7_draw.desc).map (fun d => d.parameters.length) = some 0 := by decide +kernel
theorem tc_sd_draw : Cond.code yX7_draw cX7_draw 1 (some .int) ∈ gtb := gk_4 148 rfl rfl
theorem ti_sd_draw : Cond.instanceMethod yX7_draw ∈ gtb := gk_4 147 rfl rfl
theorem tv_sd_draw : Cond.selects RX7 yX7_draw yX7_draw ∈ gtb := gp_2 7 rfl rfl
theorem td_sd_runDay : (parseMethodDescriptor yX7_runDay.desc).map (fun d => d.parameters.length) = some 3 := by decide +kernel
theorem tc_sd_runDay : Cond.code yX7_runDay cX7_runDay 6 none ∈ gtb := gk_4 144 rfl rfl
theorem ti_sd_runDay : Cond.instanceMethod yX7_runDay ∈ gtb := gk_4 142 rfl rfl
theorem tv_sd_runDay : Cond.selects RX7 yX7_runDay yX7_runDay ∈ gtb := gk_4 143 rfl rfl
theorem td_tx_append : (parseMethodDescriptor yX8_append.desc).map (fun d => d.parameters.length) = some 1 := by decide +kernel
theorem tc_tx_append : Cond.code yX8_append cX8_append 3 none ∈ gtb := gk_3 21 rfl rfl
theorem ti_tx_append : Cond.instanceMethod yX8_append ∈ gtb := gk_3 19 rfl rfl
theorem tv_tx_append : Cond.selects RX8 yX8_append yX8_append ∈ gtb := gk_3 20 rfl rfl
theorem td_td_knownEighths : (parseMethodDescriptor yX9_knownEighths.desc).map (fun d => d.parameters.length) = some 0 := by decide +kernel
theorem tc_td_knownEighths : Cond.code yX9_knownEighths cX9_knownEighths 3 (some .int) ∈ gtb := gk_4 182 rfl rfl
theorem ti_td_knownEighths : Cond.instanceMethod yX9_knownEighths ∈ gtb := gk_4 180 rfl rfl
theorem tv_td_knownEighths : Cond.selects RX9 yX9_knownEighths yX9_knownEighths ∈ gtb := gk_4 181 rfl rfl
theorem td_wp_takesBales : (parseMethodDescriptor yX10_takesBales.desc).map (fun d => d.parameters.length) = some 1 := by decide +kernel
theorem tc_wp_takesBales : Cond.code yX10_takesBales cX10_takesBales 4 (some .boolean) ∈ gtb := gk_4 225 rfl rfl
theorem ti_wp_takesBales : Cond.instanceMethod yX10_takesBales ∈ gtb := gk_4 224 rfl rfl
theorem tv_wp_takesBales : Cond.selects RX10 yX10_takesBales yX10_takesBales ∈ gtb := gp_2 11 rfl rfl
theorem td_wp_takesWeights : (parseMethodDescriptor yX10_takesWeights.desc).map (fun d => d.parameters.length) = some 1 := by decide +kernel
theorem tc_wp_takesWeights : Cond.code yX10_takesWeights cX10_takesWeights 4 (some .boolean) ∈ gtb := gk_4 229 rfl rfl
theorem ti_wp_takesWeights : Cond.instanceMethod yX10_takesWeights ∈ gtb := gk_4 228 rfl rfl
theorem tv_wp_takesWeights : Cond.selects RX10 yX10_takesWeights yX10_takesWeights ∈ gtb := gp_2 12 rfl rfl
theorem td_wp_takes : (parseMethodDescriptor yX10_takes.desc).map (fun d => d.parameters.length) = some 2 := by decide +kernel
theorem tc_wp_takes : Cond.code yX10_takes cX10_takes 3 (some .boolean) ∈ gtb := gk_4 221 rfl rfl
theorem ti_wp_takes : Cond.instanceMethod yX10_takes ∈ gtb := gk_4 219 rfl rfl
theorem tv_wp_takes : Cond.selects RX10 yX10_takes yX10_takes ∈ gtb := gk_4 220 rfl rfl
theorem td_wp_behind : (parseMethodDescriptor yX10_behind.desc).map (fun d => d.parameters.length) = some 2 := by decide +kernel
theorem tc_wp_behind : Cond.code yX10_behind cX10_behind 3 (some .int) ∈ gtb := gk_5 3 rfl rfl
theorem ti_wp_behind : Cond.instanceMethod yX10_behind ∈ gtb := gk_5 2 rfl rfl
theorem tv_wp_behind : Cond.selects RX10 yX10_behind yX10_behind ∈ gtb := gp_2 14 rfl rfl
theorem td_wp_rest : (parseMethodDescriptor yX10_rest.desc).map (fun d => d.parameters.length) = some 3 := by decide +kernel
theorem tc_wp_rest : Cond.code yX10_rest cX10_rest 4 (some .int) ∈ gtb := gk_4 239 rfl rfl
theorem ti_wp_rest : Cond.instanceMethod yX10_rest ∈ gtb := gk_4 238 rfl rfl
theorem tv_wp_rest : Cond.selects RX10 yX10_rest yX10_rest ∈ gtb := gp_2 13 rfl rfl
theorem td_wp_mean : (parseMethodDescriptor yX10_mean.desc).map (fun d => d.parameters.length) = some 4 := by decide +kernel
theorem tc_wp_mean : Cond.code yX10_mean cX10_mean 14 (some .long) ∈ gtb := gk_5 8 rfl rfl
theorem ti_wp_mean : Cond.instanceMethod yX10_mean ∈ gtb := gk_5 7 rfl rfl
theorem tv_wp_mean : Cond.selects RX10 yX10_mean yX10_mean ∈ gtb := gp_2 15 rfl rfl
theorem td_wp_shortenFraction : (parseMethodDescriptor yX10_shortenFraction.desc).map (fun d => d.parameters.length) = some 0 := by decide +kernel
theorem tc_wp_shortenFraction : Cond.code yX10_shortenFraction cX10_shortenFraction 8 none ∈ gtb := gk_5 16 rfl rfl
theorem ti_wp_shortenFraction : Cond.instanceMethod yX10_shortenFraction ∈ gtb := gk_5 15 rfl rfl
theorem tv_wp_shortenFraction : Cond.selects RX10 yX10_shortenFraction yX10_shortenFraction ∈ gtb := gp_3 0 rfl rfl
theorem td_wp_work : (parseMethodDescriptor yX10_work.desc).map (fun d => d.parameters.length) = some 2 := by decide +kernel
theorem tc_wp_work : Cond.code yX10_work cX10_work 6 none ∈ gtb := gk_4 234 rfl rfl
theorem ti_wp_work : Cond.instanceMethod yX10_work ∈ gtb := gk_4 232 rfl rfl
theorem tv_wp_work : Cond.selects RX10 yX10_work yX10_work ∈ gtb := gk_4 233 rfl rfl
theorem td_ce_feed : (parseMethodDescriptor yX11_feed.desc).map (fun d => d.parameters.length) = some 5 := by decide +kernel
theorem tc_ce_feed : Cond.code yX11_feed cX11_feed 6 (some .int) ∈ gtb := gk_3 17 rfl rfl
theorem ti_ce_feed : Cond.instanceMethod yX11_feed ∈ gtb := gk_3 15 rfl rfl
theorem tv_ce_feed : Cond.selects RX11 yX11_feed yX11_feed ∈ gtb := gk_3 16 rfl rfl
theorem td_ce_within : (parseMethodDescriptor yX11_within.desc).map (fun d => d.parameters.length) = some 3 := by decide +kernel
theorem tc_ce_within : Cond.code yX11_within cX11_within 3 (some .boolean) ∈ gtb := gk_3 28 rfl rfl
theorem ts_ce_within : Cond.static yX11_within ∈ gtb := gk_3 27 rfl rfl
theorem td_ce_end : (parseMethodDescriptor yX11_end.desc).map (fun d => d.parameters.length) = some 1 := by decide +kernel
theorem tc_ce_end : Cond.code yX11_end cX11_end 2 (some .int) ∈ gtb := gk_3 25 rfl rfl
theorem ti_ce_end : Cond.instanceMethod yX11_end ∈ gtb := gk_3 23 rfl rfl
theorem tv_ce_end : Cond.selects RX11 yX11_end yX11_end ∈ gtb := gk_3 24 rfl rfl
theorem td_ce_shop : (parseMethodDescriptor yX11_shop.desc).map (fun d => d.parameters.length) = some 0 := by decide +kernel
theorem tc_ce_shop : Cond.code yX11_shop cX11_shop 2 (some .int) ∈ gtb := gk_3 32 rfl rfl
theorem ti_ce_shop : Cond.instanceMethod yX11_shop ∈ gtb := gk_3 30 rfl rfl
theorem tv_ce_shop : Cond.selects RX11 yX11_shop yX11_shop ∈ gtb := gk_3 31 rfl rfl
theorem td_ce_rule : (parseMethodDescriptor yX11_rule.desc).map (fun d => d.parameters.length) = some 0 := by decide +kernel
theorem tc_ce_rule : Cond.code yX11_rule cX11_rule 2 (some .int) ∈ gtb := gk_3 162 rfl rfl
theorem ti_ce_rule : Cond.instanceMethod yX11_rule ∈ gtb := gk_3 160 rfl rfl
theorem tv_ce_rule : Cond.selects RX11 yX11_rule yX11_rule ∈ gtb := gk_3 161 rfl rfl
theorem td_ce_bale : (parseMethodDescriptor yX11_bale.desc).map (fun d => d.parameters.length) = some 2 := by decide +kernel
theorem tc_ce_bale : Cond.code yX11_bale cX11_bale 4 (some .int) ∈ gtb := gk_4 19 rfl rfl
theorem ti_ce_bale : Cond.instanceMethod yX11_bale ∈ gtb := gk_4 17 rfl rfl
theorem tv_ce_bale : Cond.selects RX11 yX11_bale yX11_bale ∈ gtb := gk_4 18 rfl rfl
theorem td_ce_refuse : (parseMethodDescriptor yX11_refuse.desc).map (fun d => d.parameters.length) = some 1 := by decide +kernel
theorem tc_ce_refuse : Cond.code yX11_refuse cX11_refuse 2 (some .int) ∈ gtb := gk_4 44 rfl rfl
theorem ti_ce_refuse : Cond.instanceMethod yX11_refuse ∈ gtb := gk_4 43 rfl rfl
theorem tv_ce_refuse : Cond.selects RX11 yX11_refuse yX11_refuse ∈ gtb := gp_2 1 rfl rfl
theorem td_ce_carryOff : (parseMethodDescriptor yX11_carryOff.desc).map (fun d => d.parameters.length) = some 3 := by decide +kernel
theorem tc_ce_carryOff : Cond.code yX11_carryOff cX11_carryOff 4 (some .int) ∈ gtb := gk_4 40 rfl rfl
theorem ti_ce_carryOff : Cond.instanceMethod yX11_carryOff ∈ gtb := gk_4 39 rfl rfl
theorem tv_ce_carryOff : Cond.selects RX11 yX11_carryOff yX11_carryOff ∈ gtb := gp_2 0 rfl rfl
theorem td_ce_cut : (parseMethodDescriptor yX11_cut.desc).map (fun d => d.parameters.length) = some 2 := by decide +kernel
theorem tc_ce_cut : Cond.code yX11_cut cX11_cut 3 (some .int) ∈ gtb := gk_4 36 rfl rfl
theorem ti_ce_cut : Cond.instanceMethod yX11_cut ∈ gtb := gk_4 34 rfl rfl
theorem tv_ce_cut : Cond.selects RX11 yX11_cut yX11_cut ∈ gtb := gk_4 35 rfl rfl
theorem td_ce_tear : (parseMethodDescriptor yX11_tear.desc).map (fun d => d.parameters.length) = some 2 := by decide +kernel
theorem tc_ce_tear : Cond.code yX11_tear cX11_tear 3 (some .int) ∈ gtb := gk_4 64 rfl rfl
theorem ti_ce_tear : Cond.instanceMethod yX11_tear ∈ gtb := gk_4 62 rfl rfl
theorem tv_ce_tear : Cond.selects RX11 yX11_tear yX11_tear ∈ gtb := gk_4 63 rfl rfl
theorem td_ce_basket : (parseMethodDescriptor yX11_basket.desc).map (fun d => d.parameters.length) = some 1 := by decide +kernel
theorem tc_ce_basket : Cond.code yX11_basket cX11_basket 2 (some .int) ∈ gtb := gk_4 68 rfl rfl
theorem ti_ce_basket : Cond.instanceMethod yX11_basket ∈ gtb := gk_4 66 rfl rfl
theorem tv_ce_basket : Cond.selects RX11 yX11_basket yX11_basket ∈ gtb := gk_4 67 rfl rfl
theorem td_ce_ends : (parseMethodDescriptor yX11_ends.desc).map (fun d => d.parameters.length) = some 2 := by decide +kernel
theorem tc_ce_ends : Cond.code yX11_ends cX11_ends 3 (some .int) ∈ gtb := gk_4 76 rfl rfl
theorem ti_ce_ends : Cond.instanceMethod yX11_ends ∈ gtb := gk_4 74 rfl rfl
theorem tv_ce_ends : Cond.selects RX11 yX11_ends yX11_ends ∈ gtb := gk_4 75 rfl rfl
theorem td_ce_out : (parseMethodDescriptor yX11_out.desc).map (fun d => d.parameters.length) = some 1 := by decide +kernel
theorem tc_ce_out : Cond.code yX11_out cX11_out 2 (some .int) ∈ gtb := gk_4 84 rfl rfl
theorem ti_ce_out : Cond.instanceMethod yX11_out ∈ gtb := gk_4 82 rfl rfl
theorem tv_ce_out : Cond.selects RX11 yX11_out yX11_out ∈ gtb := gk_4 83 rfl rfl
theorem td_ce_hasRule : (parseMethodDescriptor yX11_hasRule.desc).map (fun d => d.parameters.length) = some 1 := by decide +kernel
theorem tc_ce_hasRule : Cond.code yX11_hasRule cX11_hasRule 2 (some .boolean) ∈ gtb := gk_4 96 rfl rfl
theorem ti_ce_hasRule : Cond.instanceMethod yX11_hasRule ∈ gtb := gk_4 95 rfl rfl
theorem tv_ce_hasRule : Cond.selects RX11 yX11_hasRule yX11_hasRule ∈ gtb := gp_2 2 rfl rfl
theorem td_ce_serve : (parseMethodDescriptor yX11_serve.desc).map (fun d => d.parameters.length) = some 2 := by decide +kernel
theorem tc_ce_serve : Cond.code yX11_serve cX11_serve 4 (some .int) ∈ gtb := gk_4 92 rfl rfl
theorem ti_ce_serve : Cond.instanceMethod yX11_serve ∈ gtb := gk_4 90 rfl rfl
theorem tv_ce_serve : Cond.selects RX11 yX11_serve yX11_serve ∈ gtb := gk_4 91 rfl rfl
theorem td_ce_isDay : (parseMethodDescriptor yX11_isDay.desc).map (fun d => d.parameters.length) = some 2 := by decide +kernel
theorem tc_ce_isDay : Cond.code yX11_isDay cX11_isDay 2 (some .boolean) ∈ gtb := gk_4 140 rfl rfl
theorem ts_ce_isDay : Cond.static yX11_isDay ∈ gtb := gk_4 139 rfl rfl
theorem td_ce_day : (parseMethodDescriptor yX11_day.desc).map (fun d => d.parameters.length) = some 3 := by decide +kernel
theorem tc_ce_day : Cond.code yX11_day cX11_day 6 (some .int) ∈ gtb := gk_4 137 rfl rfl
theorem ti_ce_day : Cond.instanceMethod yX11_day ∈ gtb := gk_4 135 rfl rfl
theorem tv_ce_day : Cond.selects RX11 yX11_day yX11_day ∈ gtb := gk_4 136 rfl rfl
theorem td_ce_days : (parseMethodDescriptor yX11_days.desc).map (fun d => d.parameters.length) = some 5 := by decide +kernel
theorem tc_ce_days : Cond.code yX11_days cX11_days 7 (some .int) ∈ gtb := gk_4 157 rfl rfl
theorem ti_ce_days : Cond.instanceMethod yX11_days ∈ gtb := gk_4 155 rfl rfl
theorem tv_ce_days : Cond.selects RX11 yX11_days yX11_days ∈ gtb := gk_4 156 rfl rfl
theorem td_ce_known : (parseMethodDescriptor yX11_known.desc).map (fun d => d.parameters.length) = some 1 := by decide +kernel
theorem tc_ce_known : Cond.code yX11_known cX11_known 3 (some .int) ∈ gtb := gk_4 174 rfl rfl
theorem ti_ce_known : Cond.instanceMethod yX11_known ∈ gtb := gk_4 172 rfl rfl
theorem tv_ce_known : Cond.selects RX11 yX11_known yX11_known ∈ gtb := gk_4 173 rfl rfl
theorem td_ce_all : (parseMethodDescriptor yX11_all.desc).map (fun d => d.parameters.length) = some 1 := by decide +kernel
theorem tc_ce_all : Cond.code yX11_all cX11_all 2 (some .int) ∈ gtb := gk_4 178 rfl rfl
theorem ti_ce_all : Cond.instanceMethod yX11_all ∈ gtb := gk_4 176 rfl rfl
theorem tv_ce_all : Cond.selects RX11 yX11_all yX11_all ∈ gtb := gk_4 177 rfl rfl
theorem td_ce_weight : (parseMethodDescriptor yX11_weight.desc).map (fun d => d.parameters.length) = some 2 := by decide +kernel
theorem tc_ce_weight : Cond.code yX11_weight cX11_weight 4 (some .int) ∈ gtb := gk_4 213 rfl rfl
theorem ti_ce_weight : Cond.instanceMethod yX11_weight ∈ gtb := gk_4 211 rfl rfl
theorem tv_ce_weight : Cond.selects RX11 yX11_weight yX11_weight ∈ gtb := gk_4 212 rfl rfl
theorem td_ce_which : (parseMethodDescriptor yX11_which.desc).map (fun d => d.parameters.length) = some 3 := by decide +kernel
theorem tc_ce_which : Cond.code yX11_which cX11_which 5 (some .long) ∈ gtb := gk_4 217 rfl rfl
theorem ti_ce_which : Cond.instanceMethod yX11_which ∈ gtb := gk_4 215 rfl rfl
theorem tv_ce_which : Cond.selects RX11 yX11_which yX11_which ∈ gtb := gk_4 216 rfl rfl
theorem td_ce_drops : (parseMethodDescriptor yX11_drops.desc).map (fun d => d.parameters.length) = some 2 := by decide +kernel
theorem tc_ce_drops : Cond.code yX11_drops cX11_drops 3 (some .int) ∈ gtb := gk_5 20 rfl rfl
theorem ti_ce_drops : Cond.instanceMethod yX11_drops ∈ gtb := gk_5 18 rfl rfl
theorem tv_ce_drops : Cond.selects RX11 yX11_drops yX11_drops ∈ gtb := gk_5 19 rfl rfl
theorem td_ce_areDrops : (parseMethodDescriptor yX11_areDrops.desc).map (fun d => d.parameters.length) = some 2 := by decide +kernel
theorem tc_ce_areDrops : Cond.code yX11_areDrops cX11_areDrops 2 (some .boolean) ∈ gtb := gk_5 31 rfl rfl
theorem ts_ce_areDrops : Cond.static yX11_areDrops ∈ gtb := gk_5 30 rfl rfl
theorem td_ce_lots : (parseMethodDescriptor yX11_lots.desc).map (fun d => d.parameters.length) = some 2 := by decide +kernel
theorem tc_ce_lots : Cond.code yX11_lots cX11_lots 5 (some .int) ∈ gtb := gk_5 28 rfl rfl
theorem ti_ce_lots : Cond.instanceMethod yX11_lots ∈ gtb := gk_5 26 rfl rfl
theorem tv_ce_lots : Cond.selects RX11 yX11_lots yX11_lots ∈ gtb := gk_5 27 rfl rfl
theorem td_ce_meet : (parseMethodDescriptor yX11_meet.desc).map (fun d => d.parameters.length) = some 4 := by decide +kernel
theorem tc_ce_meet : Cond.code yX11_meet cX11_meet 10 (some .int) ∈ gtb := gk_5 40 rfl rfl
theorem ti_ce_meet : Cond.instanceMethod yX11_meet ∈ gtb := gk_5 38 rfl rfl
theorem tv_ce_meet : Cond.selects RX11 yX11_meet yX11_meet ∈ gtb := gk_5 39 rfl rfl
theorem td_ce_seam : (parseMethodDescriptor yX11_seam.desc).map (fun d => d.parameters.length) = some 3 := by decide +kernel
theorem tc_ce_seam : Cond.code yX11_seam cX11_seam 5 (some .int) ∈ gtb := gk_5 44 rfl rfl
theorem ti_ce_seam : Cond.instanceMethod yX11_seam ∈ gtb := gk_5 42 rfl rfl
theorem tv_ce_seam : Cond.selects RX11 yX11_seam yX11_seam ∈ gtb := gk_5 43 rfl rfl
theorem td_ce_made : (parseMethodDescriptor yX11_made.desc).map (fun d => d.parameters.length) = some 0 := by decide +kernel
theorem tc_ce_made : Cond.code yX11_made cX11_made 1 (some .int) ∈ gtb := gk_5 52 rfl rfl
theorem ti_ce_made : Cond.instanceMethod yX11_made ∈ gtb := gk_5 50 rfl rfl
theorem tv_ce_made : Cond.selects RX11 yX11_made yX11_made ∈ gtb := gk_5 51 rfl rfl
theorem td_ce_madeOf : (parseMethodDescriptor yX11_madeOf.desc).map (fun d => d.parameters.length) = some 3 := by decide +kernel
theorem tc_ce_madeOf : Cond.code yX11_madeOf cX11_madeOf 5 (some .int) ∈ gtb := gk_5 80 rfl rfl
theorem ti_ce_madeOf : Cond.instanceMethod yX11_madeOf ∈ gtb := gk_5 78 rfl rfl
theorem tv_ce_madeOf : Cond.selects RX11 yX11_madeOf yX11_madeOf ∈ gtb := gk_5 79 rfl rfl
theorem td_ce_line : (parseMethodDescriptor yX11_line.desc).map (fun d => d.parameters.length) = some 3 := by decide +kernel
theorem tc_ce_line : Cond.code yX11_line cX11_line 4 (some .int) ∈ gtb := gk_5 93 rfl rfl
theorem ti_ce_line : Cond.instanceMethod yX11_line ∈ gtb := gk_5 91 rfl rfl
theorem tv_ce_line : Cond.selects RX11 yX11_line yX11_line ∈ gtb := gk_5 92 rfl rfl
theorem td_ce_level : (parseMethodDescriptor yX11_level.desc).map (fun d => d.parameters.length) = some 2 := by decide +kernel
theorem tc_ce_level : Cond.code yX11_level cX11_level 4 (some .int) ∈ gtb := gk_5 101 rfl rfl
theorem ti_ce_level : Cond.instanceMethod yX11_level ∈ gtb := gk_5 99 rfl rfl
theorem tv_ce_level : Cond.selects RX11 yX11_level yX11_level ∈ gtb := gk_5 100 rfl rfl
theorem td_ce_sale : (parseMethodDescriptor yX11_sale.desc).map (fun d => d.parameters.length) = some 4 := by decide +kernel
theorem tc_ce_sale : Cond.code yX11_sale cX11_sale 6 (some .int) ∈ gtb := gk_5 105 rfl rfl
theorem ti_ce_sale : Cond.instanceMethod yX11_sale ∈ gtb := gk_5 103 rfl rfl
theorem tv_ce_sale : Cond.selects RX11 yX11_sale yX11_sale ∈ gtb := gk_5 104 rfl rfl
theorem td_ce_roll : (parseMethodDescriptor yX11_roll.desc).map (fun d => d.parameters.length) = some 4 := by decide +kernel
theorem tc_ce_roll : Cond.code yX11_roll cX11_roll 12 (some .int) ∈ gtb := gk_5 123 rfl rfl
theorem ti_ce_roll : Cond.instanceMethod yX11_roll ∈ gtb := gk_5 121 rfl rfl
theorem tv_ce_roll : Cond.selects RX11 yX11_roll yX11_roll ∈ gtb := gk_5 122 rfl rfl
theorem td_ce_entry : (parseMethodDescriptor yX11_entry.desc).map (fun d => d.parameters.length) = some 2 := by decide +kernel
theorem tc_ce_entry : Cond.code yX11_entry cX11_entry 4 (some .int) ∈ gtb := gk_5 132 rfl rfl
theorem ti_ce_entry : Cond.instanceMethod yX11_entry ∈ gtb := gk_5 130 rfl rfl
theorem tv_ce_entry : Cond.selects RX11 yX11_entry yX11_entry ∈ gtb := gk_5 131 rfl rfl
theorem td_ce_rod : (parseMethodDescriptor yX11_rod.desc).map (fun d => d.parameters.length) = some 2 := by decide +kernel
theorem tc_ce_rod : Cond.code yX11_rod cX11_rod 8 (some .int) ∈ gtb := gk_5 137 rfl rfl
theorem ti_ce_rod : Cond.instanceMethod yX11_rod ∈ gtb := gk_5 135 rfl rfl
theorem tv_ce_rod : Cond.selects RX11 yX11_rod yX11_rod ∈ gtb := gk_5 136 rfl rfl
theorem td_ce_seed : (parseMethodDescriptor yX11_seed.desc).map (fun d => d.parameters.length) = some 1 := by decide +kernel
theorem tc_ce_seed : Cond.code yX11_seed cX11_seed 3 (some .int) ∈ gtb := gk_5 141 rfl rfl
theorem ti_ce_seed : Cond.instanceMethod yX11_seed ∈ gtb := gk_5 139 rfl rfl
theorem tv_ce_seed : Cond.selects RX11 yX11_seed yX11_seed ∈ gtb := gk_5 140 rfl rfl
theorem td_ce_status : (parseMethodDescriptor yX11_status.desc).map (fun d => d.parameters.length) = some 1 := by decide +kernel
theorem tc_ce_status : Cond.code yX11_status cX11_status 2 (some .int) ∈ gtb := gk_5 145 rfl rfl
theorem ti_ce_status : Cond.instanceMethod yX11_status ∈ gtb := gk_5 143 rfl rfl
theorem tv_ce_status : Cond.selects RX11 yX11_status yX11_status ∈ gtb := gk_5 144 rfl rfl
theorem td_ce_count : (parseMethodDescriptor yX11_count.desc).map (fun d => d.parameters.length) = some 1 := by decide +kernel
theorem tc_ce_count : Cond.code yX11_count cX11_count 2 (some .int) ∈ gtb := gk_5 149 rfl rfl
theorem ti_ce_count : Cond.instanceMethod yX11_count ∈ gtb := gk_5 147 rfl rfl
theorem tv_ce_count : Cond.selects RX11 yX11_count yX11_count ∈ gtb := gk_5 148 rfl rfl
theorem td_ce_image : (parseMethodDescriptor yX11_image.desc).map (fun d => d.parameters.length) = some 1 := by decide +kernel
theorem tc_ce_image : Cond.code yX11_image cX11_image 2 (some .int) ∈ gtb := gk_5 153 rfl rfl
theorem ti_ce_image : Cond.instanceMethod yX11_image ∈ gtb := gk_5 151 rfl rfl
theorem tv_ce_image : Cond.selects RX11 yX11_image yX11_image ∈ gtb := gk_5 152 rfl rfl
theorem td_ce_back : (parseMethodDescriptor yX11_back.desc).map (fun d => d.parameters.length) = some 1 := by decide +kernel
theorem tc_ce_back : Cond.code yX11_back cX11_back 2 (some .int) ∈ gtb := gk_5 157 rfl rfl
theorem ti_ce_back : Cond.instanceMethod yX11_back ∈ gtb := gk_5 155 rfl rfl
theorem tv_ce_back : Cond.selects RX11 yX11_back yX11_back ∈ gtb := gk_5 156 rfl rfl
theorem td_md_in : (parseMethodDescriptor yX12_in.desc).map (fun d => d.parameters.length) = some 3 := by decide +kernel
theorem tc_md_in : Cond.code yX12_in cX12_in 6 (some .boolean) ∈ gtb := gk_6 218 rfl rfl
theorem ts_md_in : Cond.static yX12_in ∈ gtb := gk_6 217 rfl rfl
theorem td_md_has : (parseMethodDescriptor yX12_has.desc).map (fun d => d.parameters.length) = some 2 := by decide +kernel
theorem tc_md_has : Cond.code yX12_has cX12_has 2 (some .boolean) ∈ gtb := gk_6 196 rfl rfl
theorem ts_md_has : Cond.static yX12_has ∈ gtb := gk_6 195 rfl rfl
theorem td_md_divisor : (parseMethodDescriptor yX12_divisor.desc).map (fun d => d.parameters.length) = some 2 := by decide +kernel
theorem tc_md_divisor : Cond.code yX12_divisor cX12_divisor 10 (some .long) ∈ gtb := gk_8 13 rfl rfl
theorem ts_md_divisor : Cond.static yX12_divisor ∈ gtb := gk_8 12 rfl rfl
theorem td_md_refuses : (parseMethodDescriptor yX12_refuses.desc).map (fun d => d.parameters.length) = some 1 := by decide +kernel
theorem tc_md_refuses : Cond.code yX12_refuses cX12_refuses 2 (some .int) ∈ gtb := gk_7 91 rfl rfl
theorem ti_md_refuses : Cond.instanceMethod yX12_refuses ∈ gtb := gk_7 90 rfl rfl
theorem tv_md_refuses : Cond.selects RX12 yX12_refuses yX12_refuses ∈ gtb := gp_5 5 rfl rfl
theorem td_md_isBale : (parseMethodDescriptor yX12_isBale.desc).map (fun d => d.parameters.length) = some 1 := by decide +kernel
theorem tc_md_isBale : Cond.code yX12_isBale cX12_isBale 2 (some .boolean) ∈ gtb := gk_7 66 rfl rfl
theorem ti_md_isBale : Cond.instanceMethod yX12_isBale ∈ gtb := gk_7 65 rfl rfl
theorem tv_md_isBale : Cond.selects RX12 yX12_isBale yX12_isBale ∈ gtb := gp_5 0 rfl rfl
theorem td_md_flawsIn : (parseMethodDescriptor yX12_flawsIn.desc).map (fun d => d.parameters.length) = some 2 := by decide +kernel
theorem tc_md_flawsIn : Cond.code yX12_flawsIn cX12_flawsIn 5 (some .int) ∈ gtb := gk_7 70 rfl rfl
theorem ti_md_flawsIn : Cond.instanceMethod yX12_flawsIn ∈ gtb := gk_7 69 rfl rfl
theorem tv_md_flawsIn : Cond.selects RX12 yX12_flawsIn yX12_flawsIn ∈ gtb := gp_5 1 rfl rfl
theorem td_md_leftInAll : (parseMethodDescriptor yX12_leftInAll.desc).map (fun d => d.parameters.length) = some 0 := by decide +kernel
theorem tc_md_leftInAll : Cond.code yX12_leftInAll cX12_leftInAll 3 (some .int) ∈ gtb := gk_7 193 rfl rfl
theorem ti_md_leftInAll : Cond.instanceMethod yX12_leftInAll ∈ gtb := gk_7 192 rfl rfl
theorem tv_md_leftInAll : Cond.selects RX12 yX12_leftInAll yX12_leftInAll ∈ gtb := gp_6 4 rfl rfl
theorem td_md_put : (parseMethodDescriptor yX12_put.desc).map (fun d => d.parameters.length) = some 1 := by decide +kernel
theorem tc_md_put : Cond.code yX12_put cX12_put 3 none ∈ gtb := gk_6 145 rfl rfl
theorem ti_md_put : Cond.instanceMethod yX12_put ∈ gtb := gk_6 144 rfl rfl
theorem tv_md_put : Cond.selects RX12 yX12_put yX12_put ∈ gtb := gp_3 6 rfl rfl
theorem td_md_feed : (parseMethodDescriptor yX12_feed.desc).map (fun d => d.parameters.length) = some 5 := by decide +kernel
theorem tc_md_feed : Cond.code yX12_feed cX12_feed 6 (some .int) ∈ gtb := gk_6 141 rfl rfl
theorem ti_md_feed : Cond.instanceMethod yX12_feed ∈ gtb := gk_6 139 rfl rfl
theorem tv_md_feed : Cond.selects RX12 yX12_feed yX12_feed ∈ gtb := gk_6 140 rfl rfl
theorem td_md_end : (parseMethodDescriptor yX12_end.desc).map (fun d => d.parameters.length) = some 1 := by decide +kernel
theorem tc_md_end : Cond.code yX12_end cX12_end 2 (some .int) ∈ gtb := gk_6 149 rfl rfl
theorem ti_md_end : Cond.instanceMethod yX12_end ∈ gtb := gk_6 147 rfl rfl
theorem tv_md_end : Cond.selects RX12 yX12_end yX12_end ∈ gtb := gk_6 148 rfl rfl
theorem td_md_wordOf : (parseMethodDescriptor yX12_wordOf.desc).map (fun d => d.parameters.length) = some 1 := by decide +kernel
theorem tc_md_wordOf : Cond.code yX12_wordOf cX12_wordOf 1 (some (.object "java/lang/String")) ∈ gtb := gk_7 18 rfl rfl
theorem ts_md_wordOf : Cond.static yX12_wordOf ∈ gtb := gk_7 17 rfl rfl
theorem td_md_shopWord : (parseMethodDescriptor yX12_shopWord.desc).map (fun d => d.parameters.length) = some 1 := by decide +kernel
theorem tc_md_shopWord : Cond.code yX12_shopWord cX12_shopWord 1 (some (.object "java/lang/String")) ∈ gtb := gk_6 172 rfl rfl
theorem ts_md_shopWord : Cond.static yX12_shopWord ∈ gtb := gk_6 171 rfl rfl
theorem td_md_fails : (parseMethodDescriptor yX12_fails.desc).map (fun d => d.parameters.length) = some 2 := by decide +kernel
theorem tc_md_fails : Cond.code yX12_fails cX12_fails 3 none ∈ gtb := gk_6 189 rfl rfl
theorem ti_md_fails : Cond.instanceMethod yX12_fails ∈ gtb := gk_6 188 rfl rfl
theorem tv_md_fails : Cond.selects RX12 yX12_fails yX12_fails ∈ gtb := gp_3 12 rfl rfl
theorem td_md_sign : (parseMethodDescriptor yX12_sign.desc).map (fun d => d.parameters.length) = some 0 := by decide +kernel
theorem tc_md_sign : Cond.code yX12_sign cX12_sign 1 (some .int) ∈ gtb := gk_6 169 rfl rfl
theorem ti_md_sign : Cond.instanceMethod yX12_sign ∈ gtb := gk_6 168 rfl rfl
theorem tv_md_sign : Cond.selects RX12 yX12_sign yX12_sign ∈ gtb := gp_3 10 rfl rfl
theorem td_md_blanks : (parseMethodDescriptor yX12_blanks.desc).map (fun d => d.parameters.length) = some 0 := by decide +kernel
theorem tc_md_blanks : Cond.code yX12_blanks cX12_blanks 1 none ∈ gtb := gk_6 165 rfl rfl
theorem ti_md_blanks : Cond.instanceMethod yX12_blanks ∈ gtb := gk_6 164 rfl rfl
theorem tv_md_blanks : Cond.selects RX12 yX12_blanks yX12_blanks ∈ gtb := gp_3 9 rfl rfl
theorem td_md_isDigit : (parseMethodDescriptor yX12_isDigit.desc).map (fun d => d.parameters.length) = some 0 := by decide +kernel
theorem tc_md_isDigit : Cond.code yX12_isDigit cX12_isDigit 1 (some .boolean) ∈ gtb := gk_6 213 rfl rfl
theorem ti_md_isDigit : Cond.instanceMethod yX12_isDigit ∈ gtb := gk_6 212 rfl rfl
theorem tv_md_isDigit : Cond.selects RX12 yX12_isDigit yX12_isDigit ∈ gtb := gp_4 1 rfl rfl
theorem td_md_stood : (parseMethodDescriptor yX12_stood.desc).map (fun d => d.parameters.length) = some 1 := by decide +kernel
theorem tc_md_stood : Cond.code yX12_stood cX12_stood 5 (some .boolean) ∈ gtb := gk_6 183 rfl rfl
theorem ti_md_stood : Cond.instanceMethod yX12_stood ∈ gtb := gk_6 182 rfl rfl
theorem tv_md_stood : Cond.selects RX12 yX12_stood yX12_stood ∈ gtb := gp_3 11 rfl rfl
theorem td_md_takes : (parseMethodDescriptor yX12_takes.desc).map (fun d => d.parameters.length) = some 1 := by decide +kernel
theorem tc_md_takes : Cond.code yX12_takes cX12_takes 3 (some .boolean) ∈ gtb := gk_7 31 rfl rfl
theorem ti_md_takes : Cond.instanceMethod yX12_takes ∈ gtb := gk_7 30 rfl rfl
theorem tv_md_takes : Cond.selects RX12 yX12_takes yX12_takes ∈ gtb := gp_4 9 rfl rfl
theorem td_md_entered : (parseMethodDescriptor yX12_entered.desc).map (fun d => d.parameters.length) = some 2 := by decide +kernel
theorem tc_md_entered : Cond.code yX12_entered cX12_entered 3 none ∈ gtb := gk_7 15 rfl rfl
theorem ti_md_entered : Cond.instanceMethod yX12_entered ∈ gtb := gk_7 14 rfl rfl
theorem tv_md_entered : Cond.selects RX12 yX12_entered yX12_entered ∈ gtb := gp_4 8 rfl rfl
theorem td_md_isCounted : (parseMethodDescriptor yX12_isCounted.desc).map (fun d => d.parameters.length) = some 1 := by decide +kernel
theorem tc_md_isCounted : Cond.code yX12_isCounted cX12_isCounted 2 none ∈ gtb := gk_7 11 rfl rfl
theorem ti_md_isCounted : Cond.instanceMethod yX12_isCounted ∈ gtb := gk_7 10 rfl rfl
theorem tv_md_isCounted : Cond.selects RX12 yX12_isCounted yX12_isCounted ∈ gtb := gp_4 7 rfl rfl
theorem td_md_digits : (parseMethodDescriptor yX12_digits.desc).map (fun d => d.parameters.length) = some 1 := by decide +kernel
theorem tc_md_digits : Cond.code yX12_digits cX12_digits 4 (some .int) ∈ gtb := gk_6 209 rfl rfl
theorem ti_md_digits : Cond.instanceMethod yX12_digits ∈ gtb := gk_6 208 rfl rfl
theorem tv_md_digits : Cond.selects RX12 yX12_digits yX12_digits ∈ gtb := gp_4 0 rfl rfl
theorem td_md_value : (parseMethodDescriptor yX12_value.desc).map (fun d => d.parameters.length) = some 0 := by decide +kernel
theorem tc_md_value : Cond.code yX12_value cX12_value 3 none ∈ gtb := gk_7 7 rfl rfl
theorem ti_md_value : Cond.instanceMethod yX12_value ∈ gtb := gk_7 6 rfl rfl
theorem tv_md_value : Cond.selects RX12 yX12_value yX12_value ∈ gtb := gp_4 6 rfl rfl
theorem td_md_term : (parseMethodDescriptor yX12_term.desc).map (fun d => d.parameters.length) = some 0 := by decide +kernel
theorem tc_md_term : Cond.code yX12_term cX12_term 2 none ∈ gtb := gk_7 3 rfl rfl
theorem ti_md_term : Cond.instanceMethod yX12_term ∈ gtb := gk_7 2 rfl rfl
theorem tv_md_term : Cond.selects RX12 yX12_term yX12_term ∈ gtb := gp_4 5 rfl rfl
theorem td_md_sum : (parseMethodDescriptor yX12_sum.desc).map (fun d => d.parameters.length) = some 0 := by decide +kernel
theorem tc_md_sum : Cond.code yX12_sum cX12_sum 2 none ∈ gtb := gk_6 239 rfl rfl
theorem ti_md_sum : Cond.instanceMethod yX12_sum ∈ gtb := gk_6 238 rfl rfl
theorem tv_md_sum : Cond.selects RX12 yX12_sum yX12_sum ∈ gtb := gp_4 4 rfl rfl
theorem td_md_compared : (parseMethodDescriptor yX12_compared.desc).map (fun d => d.parameters.length) = some 0 := by decide +kernel
theorem tc_md_compared : Cond.code yX12_compared cX12_compared 3 none ∈ gtb := gk_7 48 rfl rfl
theorem ti_md_compared : Cond.instanceMethod yX12_compared ∈ gtb := gk_7 47 rfl rfl
theorem tv_md_compared : Cond.selects RX12 yX12_compared yX12_compared ∈ gtb := gp_4 13 rfl rfl
theorem td_md_top : (parseMethodDescriptor yX12_top.desc).map (fun d => d.parameters.length) = some 0 := by decide +kernel
theorem tc_md_top : Cond.code yX12_top cX12_top 1 (some .int) ∈ gtb := gk_7 56 rfl rfl
theorem ti_md_top : Cond.instanceMethod yX12_top ∈ gtb := gk_7 55 rfl rfl
theorem tv_md_top : Cond.selects RX12 yX12_top yX12_top ∈ gtb := gp_4 15 rfl rfl
theorem td_md_opens : (parseMethodDescriptor yX12_opens.desc).map (fun d => d.parameters.length) = some 1 := by decide +kernel
theorem tc_md_opens : Cond.code yX12_opens cX12_opens 2 none ∈ gtb := gk_7 44 rfl rfl
theorem ti_md_opens : Cond.instanceMethod yX12_opens ∈ gtb := gk_7 43 rfl rfl
theorem tv_md_opens : Cond.selects RX12 yX12_opens yX12_opens ∈ gtb := gp_4 12 rfl rfl
theorem td_md_answers : (parseMethodDescriptor yX12_answers.desc).map (fun d => d.parameters.length) = some 1 := by decide +kernel
theorem tc_md_answers : Cond.code yX12_answers cX12_answers 2 none ∈ gtb := gk_7 52 rfl rfl
theorem ti_md_answers : Cond.instanceMethod yX12_answers ∈ gtb := gk_7 51 rfl rfl
theorem tv_md_answers : Cond.selects RX12 yX12_answers yX12_answers ∈ gtb := gp_4 14 rfl rfl
theorem td_md_fact : (parseMethodDescriptor yX12_fact.desc).map (fun d => d.parameters.length) = some 0 := by decide +kernel
theorem tc_md_fact : Cond.code yX12_fact cX12_fact 1 (some .boolean) ∈ gtb := gk_7 39 rfl rfl
theorem ti_md_fact : Cond.instanceMethod yX12_fact ∈ gtb := gk_7 38 rfl rfl
theorem tv_md_fact : Cond.selects RX12 yX12_fact yX12_fact ∈ gtb := gp_4 11 rfl rfl
theorem td_md_test : (parseMethodDescriptor yX12_test.desc).map (fun d => d.parameters.length) = some 0 := by decide +kernel
theorem tc_md_test : Cond.code yX12_test cX12_test 5 none ∈ gtb := gk_7 35 rfl rfl
theorem ti_md_test : Cond.instanceMethod yX12_test ∈ gtb := gk_7 34 rfl rfl
theorem tv_md_test : Cond.selects RX12 yX12_test yX12_test ∈ gtb := gp_4 10 rfl rfl
theorem td_md_amount : (parseMethodDescriptor yX12_amount.desc).map (fun d => d.parameters.length) = some 2 := by decide +kernel
theorem tc_md_amount : Cond.code yX12_amount cX12_amount 5 (some .int) ∈ gtb := gk_6 204 rfl rfl
theorem ti_md_amount : Cond.instanceMethod yX12_amount ∈ gtb := gk_6 203 rfl rfl
theorem tv_md_amount : Cond.selects RX12 yX12_amount yX12_amount ∈ gtb := gp_3 15 rfl rfl
theorem td_md_shopPart : (parseMethodDescriptor yX12_shopPart.desc).map (fun d => d.parameters.length) = some 1 := by decide +kernel
theorem tc_md_shopPart : Cond.code yX12_shopPart cX12_shopPart 4 none ∈ gtb := gk_6 200 rfl rfl
theorem ti_md_shopPart : Cond.instanceMethod yX12_shopPart ∈ gtb := gk_6 199 rfl rfl
theorem tv_md_shopPart : Cond.selects RX12 yX12_shopPart yX12_shopPart ∈ gtb := gp_3 14 rfl rfl
theorem td_md_isFull : (parseMethodDescriptor yX12_isFull.desc).map (fun d => d.parameters.length) = some 2 := by decide +kernel
theorem tc_md_isFull : Cond.code yX12_isFull cX12_isFull 3 (some .boolean) ∈ gtb := gk_6 193 rfl rfl
theorem ti_md_isFull : Cond.instanceMethod yX12_isFull ∈ gtb := gk_6 192 rfl rfl
theorem tv_md_isFull : Cond.selects RX12 yX12_isFull yX12_isFull ∈ gtb := gp_3 13 rfl rfl
theorem td_md_shopClause : (parseMethodDescriptor yX12_shopClause.desc).map (fun d => d.parameters.length) = some 1 := by decide +kernel
theorem tc_md_shopClause : Cond.code yX12_shopClause cX12_shopClause 4 none ∈ gtb := gk_6 161 rfl rfl
theorem ti_md_shopClause : Cond.instanceMethod yX12_shopClause ∈ gtb := gk_6 160 rfl rfl
theorem tv_md_shopClause : Cond.selects RX12 yX12_shopClause yX12_shopClause ∈ gtb := gp_3 8 rfl rfl
theorem td_md_lay : (parseMethodDescriptor yX12_lay.desc).map (fun d => d.parameters.length) = some 2 := by decide +kernel
theorem tc_md_lay : Cond.code yX12_lay cX12_lay 3 none ∈ gtb := gk_6 225 rfl rfl
theorem ts_md_lay : Cond.static yX12_lay ∈ gtb := gk_6 224 rfl rfl
theorem td_md_goesOn : (parseMethodDescriptor yX12_goesOn.desc).map (fun d => d.parameters.length) = some 0 := by decide +kernel
theorem tc_md_goesOn : Cond.code yX12_goesOn cX12_goesOn 2 (some .boolean) ∈ gtb := gk_6 222 rfl rfl
theorem ti_md_goesOn : Cond.instanceMethod yX12_goesOn ∈ gtb := gk_6 221 rfl rfl
theorem tv_md_goesOn : Cond.selects RX12 yX12_goesOn yX12_goesOn ∈ gtb := gp_4 2 rfl rfl
theorem td_md_starts : (parseMethodDescriptor yX12_starts.desc).map (fun d => d.parameters.length) = some 0 := by decide +kernel
theorem tc_md_starts : Cond.code yX12_starts cX12_starts 1 none ∈ gtb := gk_6 157 rfl rfl
theorem ti_md_starts : Cond.instanceMethod yX12_starts ∈ gtb := gk_6 156 rfl rfl
theorem tv_md_starts : Cond.selects RX12 yX12_starts yX12_starts ∈ gtb := gp_3 7 rfl rfl
theorem td_md_shop : (parseMethodDescriptor yX12_shop.desc).map (fun d => d.parameters.length) = some 0 := by decide +kernel
theorem tc_md_shop : Cond.code yX12_shop cX12_shop 5 (some .int) ∈ gtb := gk_6 153 rfl rfl
theorem ti_md_shop : Cond.instanceMethod yX12_shop ∈ gtb := gk_6 151 rfl rfl
theorem tv_md_shop : Cond.selects RX12 yX12_shop yX12_shop ∈ gtb := gk_6 152 rfl rfl
theorem td_md_ruleClause : (parseMethodDescriptor yX12_ruleClause.desc).map (fun d => d.parameters.length) = some 1 := by decide +kernel
theorem tc_md_ruleClause : Cond.code yX12_ruleClause cX12_ruleClause 5 none ∈ gtb := gk_6 233 rfl rfl
theorem ti_md_ruleClause : Cond.instanceMethod yX12_ruleClause ∈ gtb := gk_6 232 rfl rfl
theorem tv_md_ruleClause : Cond.selects RX12 yX12_ruleClause yX12_ruleClause ∈ gtb := gp_4 3 rfl rfl
theorem td_md_rule : (parseMethodDescriptor yX12_rule.desc).map (fun d => d.parameters.length) = some 0 := by decide +kernel
theorem tc_md_rule : Cond.code yX12_rule cX12_rule 3 (some .int) ∈ gtb := gk_6 229 rfl rfl
theorem ti_md_rule : Cond.instanceMethod yX12_rule ∈ gtb := gk_6 227 rfl rfl
theorem tv_md_rule : Cond.selects RX12 yX12_rule yX12_rule ∈ gtb := gk_6 228 rfl rfl
theorem td_md_isRule : (parseMethodDescriptor yX12_isRule.desc).map (fun d => d.parameters.length) = some 1 := by decide +kernel
theorem tc_md_isRule : Cond.code yX12_isRule cX12_isRule 2 (some .boolean) ∈ gtb := gk_7 131 rfl rfl
theorem ti_md_isRule : Cond.instanceMethod yX12_isRule ∈ gtb := gk_7 130 rfl rfl
theorem tv_md_isRule : Cond.selects RX12 yX12_isRule yX12_isRule ∈ gtb := gp_5 10 rfl rfl
theorem td_md_truth : (parseMethodDescriptor yX12_truth.desc).map (fun d => d.parameters.length) = some 1 := by decide +kernel
theorem tc_md_truth : Cond.code yX12_truth cX12_truth 1 (some .long) ∈ gtb := gk_7 157 rfl rfl
theorem ts_md_truth : Cond.static yX12_truth ∈ gtb := gk_7 156 rfl rfl
theorem td_md_both : (parseMethodDescriptor yX12_both.desc).map (fun d => d.parameters.length) = some 3 := by decide +kernel
theorem tc_md_both : Cond.code yX12_both cX12_both 5 (some .long) ∈ gtb := gk_7 154 rfl rfl
theorem ts_md_both : Cond.static yX12_both ∈ gtb := gk_7 153 rfl rfl
theorem td_md_answer : (parseMethodDescriptor yX12_answer.desc).map (fun d => d.parameters.length) = some 3 := by decide +kernel
theorem tc_md_answer : Cond.code yX12_answer cX12_answer 8 (some .long) ∈ gtb := gk_7 151 rfl rfl
theorem ti_md_answer : Cond.instanceMethod yX12_answer ∈ gtb := gk_7 150 rfl rfl
theorem tv_md_answer : Cond.selects RX12 yX12_answer yX12_answer ∈ gtb := gp_5 15 rfl rfl
theorem td_md_nearest : (parseMethodDescriptor yX12_nearest.desc).map (fun d => d.parameters.length) = some 1 := by decide +kernel
theorem tc_md_nearest : Cond.code yX12_nearest cX12_nearest 5 (some .int) ∈ gtb := gk_7 74 rfl rfl
theorem ti_md_nearest : Cond.instanceMethod yX12_nearest ∈ gtb := gk_7 73 rfl rfl
theorem tv_md_nearest : Cond.selects RX12 yX12_nearest yX12_nearest ∈ gtb := gp_5 2 rfl rfl
theorem td_md_isEnd : (parseMethodDescriptor yX12_isEnd.desc).map (fun d => d.parameters.length) = some 1 := by decide +kernel
theorem tc_md_isEnd : Cond.code yX12_isEnd cX12_isEnd 2 (some .boolean) ∈ gtb := gk_7 78 rfl rfl
theorem ti_md_isEnd : Cond.instanceMethod yX12_isEnd ∈ gtb := gk_7 77 rfl rfl
theorem tv_md_isEnd : Cond.selects RX12 yX12_isEnd yX12_isEnd ∈ gtb := gp_5 3 rfl rfl
theorem td_md_bale : (parseMethodDescriptor yX12_bale.desc).map (fun d => d.parameters.length) = some 2 := by decide +kernel
theorem tc_md_bale : Cond.code yX12_bale cX12_bale 3 (some .int) ∈ gtb := gk_7 62 rfl rfl
theorem ti_md_bale : Cond.instanceMethod yX12_bale ∈ gtb := gk_7 60 rfl rfl
theorem tv_md_bale : Cond.selects RX12 yX12_bale yX12_bale ∈ gtb := gk_7 61 rfl rfl
theorem td_md_taken : (parseMethodDescriptor yX12_taken.desc).map (fun d => d.parameters.length) = some 3 := by decide +kernel
theorem tc_md_taken : Cond.code yX12_taken cX12_taken 4 (some .int) ∈ gtb := gk_7 99 rfl rfl
theorem ti_md_taken : Cond.instanceMethod yX12_taken ∈ gtb := gk_7 98 rfl rfl
theorem tv_md_taken : Cond.selects RX12 yX12_taken yX12_taken ∈ gtb := gp_5 7 rfl rfl
theorem td_md_takes0 : (parseMethodDescriptor yX12_takes0.desc).map (fun d => d.parameters.length) = some 2 := by decide +kernel
theorem tc_md_takes0 : Cond.code yX12_takes0 cX12_takes0 4 none ∈ gtb := gk_7 103 rfl rfl
theorem ti_md_takes0 : Cond.instanceMethod yX12_takes0 ∈ gtb := gk_7 102 rfl rfl
theorem tv_md_takes0 : Cond.selects RX12 yX12_takes0 yX12_takes0 ∈ gtb := gp_5 8 rfl rfl
theorem td_md_cuts : (parseMethodDescriptor yX12_cuts.desc).map (fun d => d.parameters.length) = some 3 := by decide +kernel
theorem tc_md_cuts : Cond.code yX12_cuts cX12_cuts 5 none ∈ gtb := gk_7 95 rfl rfl
theorem ti_md_cuts : Cond.instanceMethod yX12_cuts ∈ gtb := gk_7 94 rfl rfl
theorem tv_md_cuts : Cond.selects RX12 yX12_cuts yX12_cuts ∈ gtb := gp_5 6 rfl rfl
theorem td_md_cutsBy : (parseMethodDescriptor yX12_cutsBy.desc).map (fun d => d.parameters.length) = some 3 := by decide +kernel
theorem tc_md_cutsBy : Cond.code yX12_cutsBy cX12_cutsBy 5 (some .int) ∈ gtb := gk_7 86 rfl rfl
theorem ti_md_cutsBy : Cond.instanceMethod yX12_cutsBy ∈ gtb := gk_7 85 rfl rfl
theorem tv_md_cutsBy : Cond.selects RX12 yX12_cutsBy yX12_cutsBy ∈ gtb := gp_5 4 rfl rfl
theorem td_md_cut : (parseMethodDescriptor yX12_cut.desc).map (fun d => d.parameters.length) = some 2 := by decide +kernel
theorem tc_md_cut : Cond.code yX12_cut cX12_cut 3 (some .int) ∈ gtb := gk_7 82 rfl rfl
theorem ti_md_cut : Cond.instanceMethod yX12_cut ∈ gtb := gk_7 80 rfl rfl
theorem tv_md_cut : Cond.selects RX12 yX12_cut yX12_cut ∈ gtb := gk_7 81 rfl rfl
theorem td_md_tear : (parseMethodDescriptor yX12_tear.desc).map (fun d => d.parameters.length) = some 2 := by decide +kernel
theorem tc_md_tear : Cond.code yX12_tear cX12_tear 3 (some .int) ∈ gtb := gk_7 107 rfl rfl
theorem ti_md_tear : Cond.instanceMethod yX12_tear ∈ gtb := gk_7 105 rfl rfl
theorem tv_md_tear : Cond.selects RX12 yX12_tear yX12_tear ∈ gtb := gk_7 106 rfl rfl
theorem td_md_basket : (parseMethodDescriptor yX12_basket.desc).map (fun d => d.parameters.length) = some 1 := by decide +kernel
theorem tc_md_basket : Cond.code yX12_basket cX12_basket 3 (some .int) ∈ gtb := gk_7 111 rfl rfl
theorem ti_md_basket : Cond.instanceMethod yX12_basket ∈ gtb := gk_7 109 rfl rfl
theorem tv_md_basket : Cond.selects RX12 yX12_basket yX12_basket ∈ gtb := gk_7 110 rfl rfl
theorem td_md_isInBasket : (parseMethodDescriptor yX12_isInBasket.desc).map (fun d => d.parameters.length) = some 1 := by decide +kernel
theorem tc_md_isInBasket : Cond.code yX12_isInBasket cX12_isInBasket 2 (some .boolean) ∈ gtb := gk_7 119 rfl rfl
theorem ti_md_isInBasket : Cond.instanceMethod yX12_isInBasket ∈ gtb := gk_7 118 rfl rfl
theorem tv_md_isInBasket : Cond.selects RX12 yX12_isInBasket yX12_isInBasket ∈ gtb := gp_5 9 rfl rfl
theorem td_md_ends : (parseMethodDescriptor yX12_ends.desc).map (fun d => d.parameters.length) = some 2 := by decide +kernel
theorem tc_md_ends : Cond.code yX12_ends cX12_ends 3 (some .int) ∈ gtb := gk_7 115 rfl rfl
theorem ti_md_ends : Cond.instanceMethod yX12_ends ∈ gtb := gk_7 113 rfl rfl
theorem tv_md_ends : Cond.selects RX12 yX12_ends yX12_ends ∈ gtb := gk_7 114 rfl rfl
theorem td_md_out : (parseMethodDescriptor yX12_out.desc).map (fun d => d.parameters.length) = some 1 := by decide +kernel
theorem tc_md_out : Cond.code yX12_out cX12_out 4 (some .int) ∈ gtb := gk_7 123 rfl rfl
theorem ti_md_out : Cond.instanceMethod yX12_out ∈ gtb := gk_7 121 rfl rfl
theorem tv_md_out : Cond.selects RX12 yX12_out yX12_out ∈ gtb := gk_7 122 rfl rfl
theorem td_md_asks : (parseMethodDescriptor yX12_asks.desc).map (fun d => d.parameters.length) = some 2 := by decide +kernel
theorem tc_md_asks : Cond.code yX12_asks cX12_asks 3 none ∈ gtb := gk_7 139 rfl rfl
theorem ti_md_asks : Cond.instanceMethod yX12_asks ∈ gtb := gk_7 138 rfl rfl
theorem tv_md_asks : Cond.selects RX12 yX12_asks yX12_asks ∈ gtb := gp_5 12 rfl rfl
theorem td_md_holds : (parseMethodDescriptor yX12_holds.desc).map (fun d => d.parameters.length) = some 2 := by decide +kernel
theorem tc_md_holds : Cond.code yX12_holds cX12_holds 3 (some .boolean) ∈ gtb := gk_7 147 rfl rfl
theorem ti_md_holds : Cond.instanceMethod yX12_holds ∈ gtb := gk_7 146 rfl rfl
theorem tv_md_holds : Cond.selects RX12 yX12_holds yX12_holds ∈ gtb := gp_5 14 rfl rfl
theorem td_md_clauseOf : (parseMethodDescriptor yX12_clauseOf.desc).map (fun d => d.parameters.length) = some 1 := by decide +kernel
theorem tc_md_clauseOf : Cond.code yX12_clauseOf cX12_clauseOf 3 (some .int) ∈ gtb := gk_7 143 rfl rfl
theorem ti_md_clauseOf : Cond.instanceMethod yX12_clauseOf ∈ gtb := gk_7 142 rfl rfl
theorem tv_md_clauseOf : Cond.selects RX12 yX12_clauseOf yX12_clauseOf ∈ gtb := gp_5 13 rfl rfl
theorem td_md_isGiven : (parseMethodDescriptor yX12_isGiven.desc).map (fun d => d.parameters.length) = some 1 := by decide +kernel
theorem tc_md_isGiven : Cond.code yX12_isGiven cX12_isGiven 4 (some .boolean) ∈ gtb := gk_7 161 rfl rfl
theorem ti_md_isGiven : Cond.instanceMethod yX12_isGiven ∈ gtb := gk_7 160 rfl rfl
theorem tv_md_isGiven : Cond.selects RX12 yX12_isGiven yX12_isGiven ∈ gtb := gp_6 0 rfl rfl
theorem td_md_serves : (parseMethodDescriptor yX12_serves.desc).map (fun d => d.parameters.length) = some 2 := by decide +kernel
theorem tc_md_serves : Cond.code yX12_serves cX12_serves 10 (some .int) ∈ gtb := gk_7 135 rfl rfl
theorem ti_md_serves : Cond.instanceMethod yX12_serves ∈ gtb := gk_7 134 rfl rfl
theorem tv_md_serves : Cond.selects RX12 yX12_serves yX12_serves ∈ gtb := gp_5 11 rfl rfl
theorem td_md_serve : (parseMethodDescriptor yX12_serve.desc).map (fun d => d.parameters.length) = some 2 := by decide +kernel
theorem tc_md_serve : Cond.code yX12_serve cX12_serve 4 (some .int) ∈ gtb := gk_7 127 rfl rfl
theorem ti_md_serve : Cond.instanceMethod yX12_serve ∈ gtb := gk_7 125 rfl rfl
theorem tv_md_serve : Cond.selects RX12 yX12_serve yX12_serve ∈ gtb := gk_7 126 rfl rfl
theorem td_md_draws : (parseMethodDescriptor yX12_draws.desc).map (fun d => d.parameters.length) = some 1 := by decide +kernel
theorem tc_md_draws : Cond.code yX12_draws cX12_draws 2 (some .int) ∈ gtb := gk_7 179 rfl rfl
theorem ti_md_draws : Cond.instanceMethod yX12_draws ∈ gtb := gk_7 178 rfl rfl
theorem tv_md_draws : Cond.selects RX12 yX12_draws yX12_draws ∈ gtb := gp_6 3 rfl rfl
theorem td_md_goesDay : (parseMethodDescriptor yX12_goesDay.desc).map (fun d => d.parameters.length) = some 3 := by decide +kernel
theorem tc_md_goesDay : Cond.code yX12_goesDay cX12_goesDay 6 (some .int) ∈ gtb := gk_7 175 rfl rfl
theorem ti_md_goesDay : Cond.instanceMethod yX12_goesDay ∈ gtb := gk_7 174 rfl rfl
theorem tv_md_goesDay : Cond.selects RX12 yX12_goesDay yX12_goesDay ∈ gtb := gp_6 2 rfl rfl
theorem td_md_isDay : (parseMethodDescriptor yX12_isDay.desc).map (fun d => d.parameters.length) = some 3 := by decide +kernel
theorem tc_md_isDay : Cond.code yX12_isDay cX12_isDay 4 (some .boolean) ∈ gtb := gk_7 169 rfl rfl
theorem ti_md_isDay : Cond.instanceMethod yX12_isDay ∈ gtb := gk_7 168 rfl rfl
theorem tv_md_isDay : Cond.selects RX12 yX12_isDay yX12_isDay ∈ gtb := gp_6 1 rfl rfl
theorem td_md_day : (parseMethodDescriptor yX12_day.desc).map (fun d => d.parameters.length) = some 3 := by decide +kernel
theorem tc_md_day : Cond.code yX12_day cX12_day 5 (some .int) ∈ gtb := gk_7 165 rfl rfl
theorem ti_md_day : Cond.instanceMethod yX12_day ∈ gtb := gk_7 163 rfl rfl
theorem tv_md_day : Cond.selects RX12 yX12_day yX12_day ∈ gtb := gk_7 164 rfl rfl
theorem td_md_days : (parseMethodDescriptor yX12_days.desc).map (fun d => d.parameters.length) = some 5 := by decide +kernel
theorem tc_md_days : Cond.code yX12_days cX12_days 7 (some .int) ∈ gtb := gk_7 187 rfl rfl
theorem ti_md_days : Cond.instanceMethod yX12_days ∈ gtb := gk_7 185 rfl rfl
theorem tv_md_days : Cond.selects RX12 yX12_days yX12_days ∈ gtb := gk_7 186 rfl rfl
theorem td_md_known : (parseMethodDescriptor yX12_known.desc).map (fun d => d.parameters.length) = some 1 := by decide +kernel
theorem tc_md_known : Cond.code yX12_known cX12_known 2 (some .int) ∈ gtb := gk_7 197 rfl rfl
theorem ti_md_known : Cond.instanceMethod yX12_known ∈ gtb := gk_7 195 rfl rfl
theorem tv_md_known : Cond.selects RX12 yX12_known yX12_known ∈ gtb := gk_7 196 rfl rfl
theorem td_md_sumOf : (parseMethodDescriptor yX12_sumOf.desc).map (fun d => d.parameters.length) = some 1 := by decide +kernel
theorem tc_md_sumOf : Cond.code yX12_sumOf cX12_sumOf 4 (some .int) ∈ gtb := gk_7 206 rfl rfl
theorem ti_md_sumOf : Cond.instanceMethod yX12_sumOf ∈ gtb := gk_7 205 rfl rfl
theorem tv_md_sumOf : Cond.selects RX12 yX12_sumOf yX12_sumOf ∈ gtb := gp_6 5 rfl rfl
theorem td_md_wastedBy : (parseMethodDescriptor yX12_wastedBy.desc).map (fun d => d.parameters.length) = some 2 := by decide +kernel
theorem tc_md_wastedBy : Cond.code yX12_wastedBy cX12_wastedBy 7 (some .int) ∈ gtb := gk_7 211 rfl rfl
theorem ti_md_wastedBy : Cond.instanceMethod yX12_wastedBy ∈ gtb := gk_7 210 rfl rfl
theorem tv_md_wastedBy : Cond.selects RX12 yX12_wastedBy yX12_wastedBy ∈ gtb := gp_6 6 rfl rfl
theorem td_md_all : (parseMethodDescriptor yX12_all.desc).map (fun d => d.parameters.length) = some 1 := by decide +kernel
theorem tc_md_all : Cond.code yX12_all cX12_all 7 (some .int) ∈ gtb := gk_7 201 rfl rfl
theorem ti_md_all : Cond.instanceMethod yX12_all ∈ gtb := gk_7 199 rfl rfl
theorem tv_md_all : Cond.selects RX12 yX12_all yX12_all ∈ gtb := gk_7 200 rfl rfl
theorem td_md_weight : (parseMethodDescriptor yX12_weight.desc).map (fun d => d.parameters.length) = some 2 := by decide +kernel
theorem tc_md_weight : Cond.code yX12_weight cX12_weight 4 (some .int) ∈ gtb := gk_7 215 rfl rfl
theorem ti_md_weight : Cond.instanceMethod yX12_weight ∈ gtb := gk_7 213 rfl rfl
theorem tv_md_weight : Cond.selects RX12 yX12_weight yX12_weight ∈ gtb := gk_7 214 rfl rfl
theorem td_md_findsFew : (parseMethodDescriptor yX12_findsFew.desc).map (fun d => d.parameters.length) = some 0 := by decide +kernel
theorem tc_md_findsFew : Cond.code yX12_findsFew cX12_findsFew 2 (some .boolean) ∈ gtb := gk_7 230 rfl rfl
theorem ti_md_findsFew : Cond.instanceMethod yX12_findsFew ∈ gtb := gk_7 229 rfl rfl
theorem tv_md_findsFew : Cond.selects RX12 yX12_findsFew yX12_findsFew ∈ gtb := gp_6 8 rfl rfl
theorem td_md_placeOf : (parseMethodDescriptor yX12_placeOf.desc).map (fun d => d.parameters.length) = some 1 := by decide +kernel
theorem tc_md_placeOf : Cond.code yX12_placeOf cX12_placeOf 1 (some .int) ∈ gtb := gk_8 2 rfl rfl
theorem ts_md_placeOf : Cond.static yX12_placeOf ∈ gtb := gk_8 1 rfl rfl
theorem td_md_leftIn : (parseMethodDescriptor yX12_leftIn.desc).map (fun d => d.parameters.length) = some 2 := by decide +kernel
theorem tc_md_leftIn : Cond.code yX12_leftIn cX12_leftIn 2 (some .int) ∈ gtb := gk_7 239 rfl rfl
theorem ts_md_leftIn : Cond.static yX12_leftIn ∈ gtb := gk_7 238 rfl rfl
theorem td_md_stateBehind : (parseMethodDescriptor yX12_stateBehind.desc).map (fun d => d.parameters.length) = some 3 := by decide +kernel
theorem tc_md_stateBehind : Cond.code yX12_stateBehind cX12_stateBehind 4 (some .int) ∈ gtb := gk_8 10 rfl rfl
theorem ti_md_stateBehind : Cond.instanceMethod yX12_stateBehind ∈ gtb := gk_8 9 rfl rfl
theorem tv_md_stateBehind : Cond.selects RX12 yX12_stateBehind yX12_stateBehind ∈ gtb := gp_6 11 rfl rfl
theorem td_md_mostFor : (parseMethodDescriptor yX12_mostFor.desc).map (fun d => d.parameters.length) = some 4 := by decide +kernel
theorem tc_md_mostFor : Cond.code yX12_mostFor cX12_mostFor 11 (some .long) ∈ gtb := gk_8 6 rfl rfl
theorem ti_md_mostFor : Cond.instanceMethod yX12_mostFor ∈ gtb := gk_8 5 rfl rfl
theorem tv_md_mostFor : Cond.selects RX12 yX12_mostFor yX12_mostFor ∈ gtb := gp_6 10 rfl rfl
theorem td_md_allWeights : (parseMethodDescriptor yX12_allWeights.desc).map (fun d => d.parameters.length) = some 0 := by decide +kernel
theorem tc_md_allWeights : Cond.code yX12_allWeights cX12_allWeights 3 (some .int) ∈ gtb := gk_7 226 rfl rfl
theorem ti_md_allWeights : Cond.instanceMethod yX12_allWeights ∈ gtb := gk_7 225 rfl rfl
theorem tv_md_allWeights : Cond.selects RX12 yX12_allWeights yX12_allWeights ∈ gtb := gp_6 7 rfl rfl
theorem td_md_fillsMeans : (parseMethodDescriptor yX12_fillsMeans.desc).map (fun d => d.parameters.length) = some 1 := by decide +kernel
theorem tc_md_fillsMeans : Cond.code yX12_fillsMeans cX12_fillsMeans 11 (some .int) ∈ gtb := gk_7 235 rfl rfl
theorem ti_md_fillsMeans : Cond.instanceMethod yX12_fillsMeans ∈ gtb := gk_7 234 rfl rfl
theorem tv_md_fillsMeans : Cond.selects RX12 yX12_fillsMeans yX12_fillsMeans ∈ gtb := gp_6 9 rfl rfl
theorem td_md_which : (parseMethodDescriptor yX12_which.desc).map (fun d => d.parameters.length) = some 3 := by decide +kernel
theorem tc_md_which : Cond.code yX12_which cX12_which 14 (some .long) ∈ gtb := gk_7 221 rfl rfl
theorem ti_md_which : Cond.instanceMethod yX12_which ∈ gtb := gk_7 219 rfl rfl
theorem tv_md_which : Cond.selects RX12 yX12_which yX12_which ∈ gtb := gk_7 220 rfl rfl
theorem td_md_dropsOf : (parseMethodDescriptor yX12_dropsOf.desc).map (fun d => d.parameters.length) = some 2 := by decide +kernel
theorem tc_md_dropsOf : Cond.code yX12_dropsOf cX12_dropsOf 5 (some .int) ∈ gtb := gk_8 21 rfl rfl
theorem ti_md_dropsOf : Cond.instanceMethod yX12_dropsOf ∈ gtb := gk_8 20 rfl rfl
theorem tv_md_dropsOf : Cond.selects RX12 yX12_dropsOf yX12_dropsOf ∈ gtb := gp_6 12 rfl rfl
theorem td_md_drops : (parseMethodDescriptor yX12_drops.desc).map (fun d => d.parameters.length) = some 2 := by decide +kernel
theorem tc_md_drops : Cond.code yX12_drops cX12_drops 3 (some .int) ∈ gtb := gk_8 17 rfl rfl
theorem ti_md_drops : Cond.instanceMethod yX12_drops ∈ gtb := gk_8 15 rfl rfl
theorem tv_md_drops : Cond.selects RX12 yX12_drops yX12_drops ∈ gtb := gk_8 16 rfl rfl
theorem td_md_lots : (parseMethodDescriptor yX12_lots.desc).map (fun d => d.parameters.length) = some 2 := by decide +kernel
theorem tc_md_lots : Cond.code yX12_lots cX12_lots 7 (some .int) ∈ gtb := gk_8 25 rfl rfl
theorem ti_md_lots : Cond.instanceMethod yX12_lots ∈ gtb := gk_8 23 rfl rfl
theorem tv_md_lots : Cond.selects RX12 yX12_lots yX12_lots ∈ gtb := gk_8 24 rfl rfl
theorem td_md_meet : (parseMethodDescriptor yX12_meet.desc).map (fun d => d.parameters.length) = some 4 := by decide +kernel
theorem tc_md_meet : Cond.code yX12_meet cX12_meet 9 (some .int) ∈ gtb := gk_8 30 rfl rfl
theorem ti_md_meet : Cond.instanceMethod yX12_meet ∈ gtb := gk_8 28 rfl rfl
theorem tv_md_meet : Cond.selects RX12 yX12_meet yX12_meet ∈ gtb := gk_8 29 rfl rfl
theorem td_md_isSeam : (parseMethodDescriptor yX12_isSeam.desc).map (fun d => d.parameters.length) = some 4 := by decide +kernel
theorem tc_md_isSeam : Cond.code yX12_isSeam cX12_isSeam 9 (some .boolean) ∈ gtb := gk_8 38 rfl rfl
theorem ti_md_isSeam : Cond.instanceMethod yX12_isSeam ∈ gtb := gk_8 37 rfl rfl
theorem tv_md_isSeam : Cond.selects RX12 yX12_isSeam yX12_isSeam ∈ gtb := gp_6 13 rfl rfl
theorem td_md_seam : (parseMethodDescriptor yX12_seam.desc).map (fun d => d.parameters.length) = some 3 := by decide +kernel
theorem tc_md_seam : Cond.code yX12_seam cX12_seam 5 (some .int) ∈ gtb := gk_8 34 rfl rfl
theorem ti_md_seam : Cond.instanceMethod yX12_seam ∈ gtb := gk_8 32 rfl rfl
theorem tv_md_seam : Cond.selects RX12 yX12_seam yX12_seam ∈ gtb := gk_8 33 rfl rfl
theorem td_md_fillsWorths : (parseMethodDescriptor yX12_fillsWorths.desc).map (fun d => d.parameters.length) = some 1 := by decide +kernel
theorem tc_md_fillsWorths : Cond.code yX12_fillsWorths cX12_fillsWorths 5 none ∈ gtb := gk_8 47 rfl rfl
theorem ti_md_fillsWorths : Cond.instanceMethod yX12_fillsWorths ∈ gtb := gk_8 46 rfl rfl
theorem tv_md_fillsWorths : Cond.selects RX12 yX12_fillsWorths yX12_fillsWorths ∈ gtb := gp_6 14 rfl rfl
theorem td_md_madeOf : (parseMethodDescriptor yX12_madeOf.desc).map (fun d => d.parameters.length) = some 3 := by decide +kernel
theorem tc_md_madeOf : Cond.code yX12_madeOf cX12_madeOf 5 (some .int) ∈ gtb := gk_8 42 rfl rfl
theorem ti_md_madeOf : Cond.instanceMethod yX12_madeOf ∈ gtb := gk_8 40 rfl rfl
theorem tv_md_madeOf : Cond.selects RX12 yX12_madeOf yX12_madeOf ∈ gtb := gk_8 41 rfl rfl
theorem td_md_pairOf : (parseMethodDescriptor yX12_pairOf.desc).map (fun d => d.parameters.length) = some 2 := by decide +kernel
theorem tc_md_pairOf : Cond.code yX12_pairOf cX12_pairOf 4 (some .int) ∈ gtb := gk_8 55 rfl rfl
theorem ti_md_pairOf : Cond.instanceMethod yX12_pairOf ∈ gtb := gk_8 54 rfl rfl
theorem tv_md_pairOf : Cond.selects RX12 yX12_pairOf yX12_pairOf ∈ gtb := gp_6 15 rfl rfl
theorem td_md_made : (parseMethodDescriptor yX12_made.desc).map (fun d => d.parameters.length) = some 0 := by decide +kernel
theorem tc_md_made : Cond.code yX12_made cX12_made 8 (some .int) ∈ gtb := gk_8 51 rfl rfl
theorem ti_md_made : Cond.instanceMethod yX12_made ∈ gtb := gk_8 49 rfl rfl
theorem tv_md_made : Cond.selects RX12 yX12_made yX12_made ∈ gtb := gk_8 50 rfl rfl
theorem td_md_line : (parseMethodDescriptor yX12_line.desc).map (fun d => d.parameters.length) = some 3 := by decide +kernel
theorem tc_md_line : Cond.code yX12_line cX12_line 5 (some .int) ∈ gtb := gk_8 59 rfl rfl
theorem ti_md_line : Cond.instanceMethod yX12_line ∈ gtb := gk_8 57 rfl rfl
theorem tv_md_line : Cond.selects RX12 yX12_line yX12_line ∈ gtb := gk_8 58 rfl rfl
theorem td_md_level : (parseMethodDescriptor yX12_level.desc).map (fun d => d.parameters.length) = some 2 := by decide +kernel
theorem tc_md_level : Cond.code yX12_level cX12_level 3 (some .int) ∈ gtb := gk_8 65 rfl rfl
theorem ti_md_level : Cond.instanceMethod yX12_level ∈ gtb := gk_8 63 rfl rfl
theorem tv_md_level : Cond.selects RX12 yX12_level yX12_level ∈ gtb := gk_8 64 rfl rfl
theorem td_md_coinsBy : (parseMethodDescriptor yX12_coinsBy.desc).map (fun d => d.parameters.length) = some 4 := by decide +kernel
theorem tc_md_coinsBy : Cond.code yX12_coinsBy cX12_coinsBy 7 (some .int) ∈ gtb := gk_8 75 rfl rfl
theorem ti_md_coinsBy : Cond.instanceMethod yX12_coinsBy ∈ gtb := gk_8 74 rfl rfl
theorem tv_md_coinsBy : Cond.selects RX12 yX12_coinsBy yX12_coinsBy ∈ gtb := gp_7 0 rfl rfl
theorem td_md_sale : (parseMethodDescriptor yX12_sale.desc).map (fun d => d.parameters.length) = some 4 := by decide +kernel
theorem tc_md_sale : Cond.code yX12_sale cX12_sale 12 (some .int) ∈ gtb := gk_8 69 rfl rfl
theorem ti_md_sale : Cond.instanceMethod yX12_sale ∈ gtb := gk_8 67 rfl rfl
theorem tv_md_sale : Cond.selects RX12 yX12_sale yX12_sale ∈ gtb := gk_8 68 rfl rfl
theorem td_md_roll : (parseMethodDescriptor yX12_roll.desc).map (fun d => d.parameters.length) = some 4 := by decide +kernel
theorem tc_md_roll : Cond.code yX12_roll cX12_roll 7 (some .int) ∈ gtb := gk_8 79 rfl rfl
theorem ti_md_roll : Cond.instanceMethod yX12_roll ∈ gtb := gk_8 77 rfl rfl
theorem tv_md_roll : Cond.selects RX12 yX12_roll yX12_roll ∈ gtb := gk_8 78 rfl rfl
theorem td_md_entry : (parseMethodDescriptor yX12_entry.desc).map (fun d => d.parameters.length) = some 2 := by decide +kernel
theorem tc_md_entry : Cond.code yX12_entry cX12_entry 3 (some .int) ∈ gtb := gk_8 88 rfl rfl
theorem ti_md_entry : Cond.instanceMethod yX12_entry ∈ gtb := gk_8 86 rfl rfl
theorem tv_md_entry : Cond.selects RX12 yX12_entry yX12_entry ∈ gtb := gk_8 87 rfl rfl
theorem td_md_soldBy : (parseMethodDescriptor yX12_soldBy.desc).map (fun d => d.parameters.length) = some 1 := by decide +kernel
theorem tc_md_soldBy : Cond.code yX12_soldBy cX12_soldBy 4 (some .int) ∈ gtb := gk_8 98 rfl rfl
theorem ti_md_soldBy : Cond.instanceMethod yX12_soldBy ∈ gtb := gk_8 97 rfl rfl
theorem tv_md_soldBy : Cond.selects RX12 yX12_soldBy yX12_soldBy ∈ gtb := gp_7 1 rfl rfl
theorem td_md_rod : (parseMethodDescriptor yX12_rod.desc).map (fun d => d.parameters.length) = some 2 := by decide +kernel
theorem tc_md_rod : Cond.code yX12_rod cX12_rod 8 (some .int) ∈ gtb := gk_8 93 rfl rfl
theorem ti_md_rod : Cond.instanceMethod yX12_rod ∈ gtb := gk_8 91 rfl rfl
theorem tv_md_rod : Cond.selects RX12 yX12_rod yX12_rod ∈ gtb := gk_8 92 rfl rfl
theorem td_md_seed : (parseMethodDescriptor yX12_seed.desc).map (fun d => d.parameters.length) = some 1 := by decide +kernel
theorem tc_md_seed : Cond.code yX12_seed cX12_seed 3 (some .int) ∈ gtb := gk_8 102 rfl rfl
theorem ti_md_seed : Cond.instanceMethod yX12_seed ∈ gtb := gk_8 100 rfl rfl
theorem tv_md_seed : Cond.selects RX12 yX12_seed yX12_seed ∈ gtb := gk_8 101 rfl rfl
theorem td_md_status : (parseMethodDescriptor yX12_status.desc).map (fun d => d.parameters.length) = some 1 := by decide +kernel
theorem tc_md_status : Cond.code yX12_status cX12_status 2 (some .int) ∈ gtb := gk_8 106 rfl rfl
theorem ti_md_status : Cond.instanceMethod yX12_status ∈ gtb := gk_8 104 rfl rfl
theorem tv_md_status : Cond.selects RX12 yX12_status yX12_status ∈ gtb := gk_8 105 rfl rfl
theorem td_md_count : (parseMethodDescriptor yX12_count.desc).map (fun d => d.parameters.length) = some 1 := by decide +kernel
theorem tc_md_count : Cond.code yX12_count cX12_count 2 (some .int) ∈ gtb := gk_8 110 rfl rfl
theorem ti_md_count : Cond.instanceMethod yX12_count ∈ gtb := gk_8 108 rfl rfl
theorem tv_md_count : Cond.selects RX12 yX12_count yX12_count ∈ gtb := gk_8 109 rfl rfl
theorem td_md_carry : (parseMethodDescriptor yX12_carry.desc).map (fun d => d.parameters.length) = some 1 := by decide +kernel
theorem tc_md_carry : Cond.code yX12_carry cX12_carry 3 none ∈ gtb := gk_8 122 rfl rfl
theorem ti_md_carry : Cond.instanceMethod yX12_carry ∈ gtb := gk_8 121 rfl rfl
theorem tv_md_carry : Cond.selects RX12 yX12_carry yX12_carry ∈ gtb := gp_7 3 rfl rfl
theorem td_md_carriesAll : (parseMethodDescriptor yX12_carriesAll.desc).map (fun d => d.parameters.length) = some 2 := by decide +kernel
theorem tc_md_carriesAll : Cond.code yX12_carriesAll cX12_carriesAll 3 none ∈ gtb := gk_8 118 rfl rfl
theorem ti_md_carriesAll : Cond.instanceMethod yX12_carriesAll ∈ gtb := gk_8 117 rfl rfl
theorem tv_md_carriesAll : Cond.selects RX12 yX12_carriesAll yX12_carriesAll ∈ gtb := gp_7 2 rfl rfl
theorem td_md_image : (parseMethodDescriptor yX12_image.desc).map (fun d => d.parameters.length) = some 1 := by decide +kernel
theorem tc_md_image : Cond.code yX12_image cX12_image 2 (some .int) ∈ gtb := gk_8 114 rfl rfl
theorem ti_md_image : Cond.instanceMethod yX12_image ∈ gtb := gk_8 112 rfl rfl
theorem tv_md_image : Cond.selects RX12 yX12_image yX12_image ∈ gtb := gk_8 113 rfl rfl
theorem td_md_back : (parseMethodDescriptor yX12_back.desc).map (fun d => d.parameters.length) = some 1 := by decide +kernel
theorem tc_md_back : Cond.code yX12_back cX12_back 2 (some .int) ∈ gtb := gk_8 126 rfl rfl
theorem ti_md_back : Cond.instanceMethod yX12_back ∈ gtb := gk_8 124 rfl rfl
theorem tv_md_back : Cond.selects RX12 yX12_back yX12_back ∈ gtb := gk_8 125 rfl rfl
theorem tn_js : Cond.initialized RJ0 ∈ gtb := gk_1 14 rfl rfl
theorem tn_jl : Cond.initialized RJ1 ∈ gtb := gk_1 15 rfl rfl
theorem tn_jp : Cond.initialized RJ3 ∈ gtb := gk_1 16 rfl rfl
theorem tn_ji : Cond.initialized RJ6 ∈ gtb := gk_1 19 rfl rfl
theorem tn_fm : Cond.initialized RX0 ∈ gtb := gk_1 9 rfl rfl
theorem tn_kp : Cond.initialized RX1 ∈ gtb := gk_1 10 rfl rfl
theorem tn_wp : Cond.initialized RX10 ∈ gtb := gk_1 11 rfl rfl
theorem tn_ce : Cond.initialized RX11 ∈ gtb := gk_1 1 rfl rfl
theorem tn_md : Cond.initialized RX12 ∈ gtb := gk_1 13 rfl rfl
theorem tn_ru : Cond.initialized RX2 ∈ gtb := gk_1 8 rfl rfl
theorem tn_rr : Cond.initialized RX3 ∈ gtb := gk_1 7 rfl rfl
theorem tn_sp : Cond.initialized RX4 ∈ gtb := gk_1 12 rfl rfl
theorem tn_sh : Cond.initialized RX5 ∈ gtb := gk_1 4 rfl rfl
theorem tn_sr : Cond.initialized RX6 ∈ gtb := gk_1 6 rfl rfl
theorem tn_sd : Cond.initialized RX7 ∈ gtb := gk_1 3 rfl rfl
theorem tn_tx : Cond.initialized RX8 ∈ gtb := gk_1 2 rfl rfl
theorem tn_td : Cond.initialized RX9 ∈ gtb := gk_1 5 rfl rfl
end
