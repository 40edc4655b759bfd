-- ===== PART A: goes FIRST, ahead of the names: the tables' words, and 'selects' of the private methods out of them =====
/-- a private method of a class that the tables say can be made, by its rows of tables_1 -/
def lw_okq (q : MethodName × Nat) : Prop := (q.1.cls ≠ "java/lang/invoke/MethodHandle" ∧ q.1.cls ≠ "java/lang/invoke/VarHandle") ∧ Cond.instantiable q.1.cls q.2 ∈ tables_1 ∧ Cond.privateMethod q.1 ∈ tables_1 ∧ Cond.instanceMethod q.1 ∈ tables_1
theorem lw_p0 : lw_okq (⟨"ClothEnds$ShopReader", "readClause", "(LClothEnds$Text;Z)I"⟩, 3) := ⟨⟨by decide +kernel, by decide +kernel⟩, List.mem_of_getElem? (i := 266) (by decide +kernel), List.mem_of_getElem? (i := 516) (by decide +kernel), List.mem_of_getElem? (i := 517) (by decide +kernel)⟩
theorem lw_p1 : lw_okq (⟨"ClothEnds$ShopReader", "most", "(II)I"⟩, 3) := ⟨⟨by decide +kernel, by decide +kernel⟩, List.mem_of_getElem? (i := 266) (by decide +kernel), List.mem_of_getElem? (i := 591) (by decide +kernel), List.mem_of_getElem? (i := 592) (by decide +kernel)⟩
theorem lw_p2 : lw_okq (⟨"ClothEnds$ShopReader", "keep", "(II)V"⟩, 3) := ⟨⟨by decide +kernel, by decide +kernel⟩, List.mem_of_getElem? (i := 266) (by decide +kernel), List.mem_of_getElem? (i := 601) (by decide +kernel), List.mem_of_getElem? (i := 602) (by decide +kernel)⟩
theorem lw_p3 : lw_okq (⟨"ClothEnds$RuleReader", "readClause", "(LClothEnds$Text;Z)I"⟩, 7) := ⟨⟨by decide +kernel, by decide +kernel⟩, List.mem_of_getElem? (i := 286) (by decide +kernel), List.mem_of_getElem? (i := 646) (by decide +kernel), List.mem_of_getElem? (i := 647) (by decide +kernel)⟩
theorem lw_p4 : lw_okq (⟨"ClothEnds$RuleReader", "readTest", "(LClothEnds$Text;)I"⟩, 7) := ⟨⟨by decide +kernel, by decide +kernel⟩, List.mem_of_getElem? (i := 286) (by decide +kernel), List.mem_of_getElem? (i := 662) (by decide +kernel), List.mem_of_getElem? (i := 663) (by decide +kernel)⟩
theorem lw_p5 : lw_okq (⟨"ClothEnds$RuleReader", "readOpenings", "(LClothEnds$Text;)I"⟩, 7) := ⟨⟨by decide +kernel, by decide +kernel⟩, List.mem_of_getElem? (i := 286) (by decide +kernel), List.mem_of_getElem? (i := 666) (by decide +kernel), List.mem_of_getElem? (i := 667) (by decide +kernel)⟩
theorem lw_p6 : lw_okq (⟨"ClothEnds$RuleReader", "readOpening", "(LClothEnds$Text;)I"⟩, 7) := ⟨⟨by decide +kernel, by decide +kernel⟩, List.mem_of_getElem? (i := 286) (by decide +kernel), List.mem_of_getElem? (i := 670) (by decide +kernel), List.mem_of_getElem? (i := 671) (by decide +kernel)⟩
theorem lw_p7 : lw_okq (⟨"ClothEnds$RuleReader", "hold", "(I)V"⟩, 7) := ⟨⟨by decide +kernel, by decide +kernel⟩, List.mem_of_getElem? (i := 286) (by decide +kernel), List.mem_of_getElem? (i := 677) (by decide +kernel), List.mem_of_getElem? (i := 678) (by decide +kernel)⟩
theorem lw_p8 : lw_okq (⟨"ClothEnds$RuleReader", "readSum", "(LClothEnds$Text;)I"⟩, 7) := ⟨⟨by decide +kernel, by decide +kernel⟩, List.mem_of_getElem? (i := 286) (by decide +kernel), List.mem_of_getElem? (i := 681) (by decide +kernel), List.mem_of_getElem? (i := 682) (by decide +kernel)⟩
theorem lw_p9 : lw_okq (⟨"ClothEnds$RuleReader", "readValue", "(LClothEnds$Text;)I"⟩, 7) := ⟨⟨by decide +kernel, by decide +kernel⟩, List.mem_of_getElem? (i := 286) (by decide +kernel), List.mem_of_getElem? (i := 685) (by decide +kernel), List.mem_of_getElem? (i := 686) (by decide +kernel)⟩
theorem lw_p10 : lw_okq (⟨"ClothEnds$RuleReader", "readBetween", "(LClothEnds$Text;)I"⟩, 7) := ⟨⟨by decide +kernel, by decide +kernel⟩, List.mem_of_getElem? (i := 286) (by decide +kernel), List.mem_of_getElem? (i := 696) (by decide +kernel), List.mem_of_getElem? (i := 697) (by decide +kernel)⟩
theorem lw_p11 : lw_okq (⟨"ClothEnds$RuleReader", "readSign", "(LClothEnds$Text;)I"⟩, 7) := ⟨⟨by decide +kernel, by decide +kernel⟩, List.mem_of_getElem? (i := 286) (by decide +kernel), List.mem_of_getElem? (i := 700) (by decide +kernel), List.mem_of_getElem? (i := 701) (by decide +kernel)⟩
theorem lw_p12 : lw_okq (⟨"ClothEnds$RuleReader", "closeBrackets", "(LClothEnds$Text;)V"⟩, 7) := ⟨⟨by decide +kernel, by decide +kernel⟩, List.mem_of_getElem? (i := 286) (by decide +kernel), List.mem_of_getElem? (i := 704) (by decide +kernel), List.mem_of_getElem? (i := 705) (by decide +kernel)⟩
theorem lw_p13 : lw_okq (⟨"ClothEnds$RuleReader", "settleNots", "()V"⟩, 7) := ⟨⟨by decide +kernel, by decide +kernel⟩, List.mem_of_getElem? (i := 286) (by decide +kernel), List.mem_of_getElem? (i := 708) (by decide +kernel), List.mem_of_getElem? (i := 709) (by decide +kernel)⟩
theorem lw_p14 : lw_okq (⟨"ClothEnds$RuleReader", "settle", "(Z)V"⟩, 7) := ⟨⟨by decide +kernel, by decide +kernel⟩, List.mem_of_getElem? (i := 286) (by decide +kernel), List.mem_of_getElem? (i := 712) (by decide +kernel), List.mem_of_getElem? (i := 713) (by decide +kernel)⟩
theorem lw_p15 : lw_okq (⟨"ClothEnds$RuleReader", "clauseEnd", "(LClothEnds$Text;I)I"⟩, 7) := ⟨⟨by decide +kernel, by decide +kernel⟩, List.mem_of_getElem? (i := 286) (by decide +kernel), List.mem_of_getElem? (i := 717) (by decide +kernel), List.mem_of_getElem? (i := 718) (by decide +kernel)⟩
def lw_privs_1 : List (MethodName × Nat) := [(⟨"ClothEnds$ShopReader", "readClause", "(LClothEnds$Text;Z)I"⟩, 3), (⟨"ClothEnds$ShopReader", "most", "(II)I"⟩, 3), (⟨"ClothEnds$ShopReader", "keep", "(II)V"⟩, 3), (⟨"ClothEnds$RuleReader", "readClause", "(LClothEnds$Text;Z)I"⟩, 7), (⟨"ClothEnds$RuleReader", "readTest", "(LClothEnds$Text;)I"⟩, 7), (⟨"ClothEnds$RuleReader", "readOpenings", "(LClothEnds$Text;)I"⟩, 7), (⟨"ClothEnds$RuleReader", "readOpening", "(LClothEnds$Text;)I"⟩, 7), (⟨"ClothEnds$RuleReader", "hold", "(I)V"⟩, 7), (⟨"ClothEnds$RuleReader", "readSum", "(LClothEnds$Text;)I"⟩, 7), (⟨"ClothEnds$RuleReader", "readValue", "(LClothEnds$Text;)I"⟩, 7), (⟨"ClothEnds$RuleReader", "readBetween", "(LClothEnds$Text;)I"⟩, 7), (⟨"ClothEnds$RuleReader", "readSign", "(LClothEnds$Text;)I"⟩, 7), (⟨"ClothEnds$RuleReader", "closeBrackets", "(LClothEnds$Text;)V"⟩, 7), (⟨"ClothEnds$RuleReader", "settleNots", "()V"⟩, 7), (⟨"ClothEnds$RuleReader", "settle", "(Z)V"⟩, 7), (⟨"ClothEnds$RuleReader", "clauseEnd", "(LClothEnds$Text;I)I"⟩, 7)]
theorem lw_r1 : ∀ q ∈ lw_privs_1, lw_okq q := List.forall_mem_cons.mpr ⟨lw_p0, List.forall_mem_cons.mpr ⟨lw_p1, List.forall_mem_cons.mpr ⟨lw_p2, List.forall_mem_cons.mpr ⟨lw_p3, List.forall_mem_cons.mpr ⟨lw_p4, List.forall_mem_cons.mpr ⟨lw_p5, List.forall_mem_cons.mpr ⟨lw_p6, List.forall_mem_cons.mpr ⟨lw_p7, List.forall_mem_cons.mpr ⟨lw_p8, List.forall_mem_cons.mpr ⟨lw_p9, List.forall_mem_cons.mpr ⟨lw_p10, List.forall_mem_cons.mpr ⟨lw_p11, List.forall_mem_cons.mpr ⟨lw_p12, List.forall_mem_cons.mpr ⟨lw_p13, List.forall_mem_cons.mpr ⟨lw_p14, List.forall_mem_cons.mpr ⟨lw_p15, fun _ h => absurd h List.not_mem_nil⟩⟩⟩⟩⟩⟩⟩⟩⟩⟩⟩⟩⟩⟩⟩⟩
theorem lw_p16 : lw_okq (⟨"ClothEnds", "carryOff", "(III)I"⟩, 14) := ⟨⟨by decide +kernel, by decide +kernel⟩, List.mem_of_getElem? (i := 21) (by decide +kernel), List.mem_of_getElem? (i := 752) (by decide +kernel), List.mem_of_getElem? (i := 753) (by decide +kernel)⟩
theorem lw_p17 : lw_okq (⟨"ClothEnds", "refuse", "(I)I"⟩, 14) := ⟨⟨by decide +kernel, by decide +kernel⟩, List.mem_of_getElem? (i := 21) (by decide +kernel), List.mem_of_getElem? (i := 756) (by decide +kernel), List.mem_of_getElem? (i := 757) (by decide +kernel)⟩
theorem lw_p18 : lw_okq (⟨"ClothEnds", "hasRule", "(I)Z"⟩, 14) := ⟨⟨by decide +kernel, by decide +kernel⟩, List.mem_of_getElem? (i := 21) (by decide +kernel), List.mem_of_getElem? (i := 808) (by decide +kernel), List.mem_of_getElem? (i := 809) (by decide +kernel)⟩
theorem lw_p19 : lw_okq (⟨"ClothEnds$Stand", "bestBale", "(LClothEnds$Rule;I)I"⟩, 14) := ⟨⟨by decide +kernel, by decide +kernel⟩, List.mem_of_getElem? (i := 49) (by decide +kernel), List.mem_of_getElem? (i := 816) (by decide +kernel), List.mem_of_getElem? (i := 817) (by decide +kernel)⟩
theorem lw_p20 : lw_okq (⟨"ClothEnds$Stand", "setWords", "(II)V"⟩, 14) := ⟨⟨by decide +kernel, by decide +kernel⟩, List.mem_of_getElem? (i := 49) (by decide +kernel), List.mem_of_getElem? (i := 820) (by decide +kernel), List.mem_of_getElem? (i := 821) (by decide +kernel)⟩
theorem lw_p21 : lw_okq (⟨"ClothEnds$Rule", "holds", "(I[J)Z"⟩, 8) := ⟨⟨by decide +kernel, by decide +kernel⟩, List.mem_of_getElem? (i := 292) (by decide +kernel), List.mem_of_getElem? (i := 828) (by decide +kernel), List.mem_of_getElem? (i := 829) (by decide +kernel)⟩
theorem lw_p22 : lw_okq (⟨"ClothEnds$Rule", "run", "(II[J)J"⟩, 8) := ⟨⟨by decide +kernel, by decide +kernel⟩, List.mem_of_getElem? (i := 292) (by decide +kernel), List.mem_of_getElem? (i := 832) (by decide +kernel), List.mem_of_getElem? (i := 833) (by decide +kernel)⟩
theorem lw_p23 : lw_okq (⟨"ClothEnds$Stand", "draw", "()I"⟩, 14) := ⟨⟨by decide +kernel, by decide +kernel⟩, List.mem_of_getElem? (i := 49) (by decide +kernel), List.mem_of_getElem? (i := 860) (by decide +kernel), List.mem_of_getElem? (i := 861) (by decide +kernel)⟩
theorem lw_p24 : lw_okq (⟨"ClothEnds$KnownPlan", "addUp", "(LClothEnds$Told;)V"⟩, 5) := ⟨⟨by decide +kernel, by decide +kernel⟩, List.mem_of_getElem? (i := 362) (by decide +kernel), List.mem_of_getElem? (i := 905) (by decide +kernel), List.mem_of_getElem? (i := 906) (by decide +kernel)⟩
theorem lw_p25 : lw_okq (⟨"ClothEnds$KnownPlan", "addBale", "(III)V"⟩, 5) := ⟨⟨by decide +kernel, by decide +kernel⟩, List.mem_of_getElem? (i := 362) (by decide +kernel), List.mem_of_getElem? (i := 910) (by decide +kernel), List.mem_of_getElem? (i := 911) (by decide +kernel)⟩
theorem lw_p26 : lw_okq (⟨"ClothEnds$KnownPlan", "choose", "(I)V"⟩, 5) := ⟨⟨by decide +kernel, by decide +kernel⟩, List.mem_of_getElem? (i := 362) (by decide +kernel), List.mem_of_getElem? (i := 921) (by decide +kernel), List.mem_of_getElem? (i := 922) (by decide +kernel)⟩
theorem lw_p27 : lw_okq (⟨"ClothEnds$WhichPlan", "takesBales", "(LClothEnds$Shop;)Z"⟩, 9) := ⟨⟨by decide +kernel, by decide +kernel⟩, List.mem_of_getElem? (i := 387) (by decide +kernel), List.mem_of_getElem? (i := 937) (by decide +kernel), List.mem_of_getElem? (i := 938) (by decide +kernel)⟩
theorem lw_p28 : lw_okq (⟨"ClothEnds$WhichPlan", "takesWeights", "(LClothEnds$Told;)Z"⟩, 9) := ⟨⟨by decide +kernel, by decide +kernel⟩, List.mem_of_getElem? (i := 387) (by decide +kernel), List.mem_of_getElem? (i := 941) (by decide +kernel), List.mem_of_getElem? (i := 942) (by decide +kernel)⟩
theorem lw_p29 : lw_okq (⟨"ClothEnds$WhichPlan", "rest", "(III)I"⟩, 9) := ⟨⟨by decide +kernel, by decide +kernel⟩, List.mem_of_getElem? (i := 387) (by decide +kernel), List.mem_of_getElem? (i := 951) (by decide +kernel), List.mem_of_getElem? (i := 952) (by decide +kernel)⟩
theorem lw_p30 : lw_okq (⟨"ClothEnds$WhichPlan", "behind", "(II)I"⟩, 9) := ⟨⟨by decide +kernel, by decide +kernel⟩, List.mem_of_getElem? (i := 387) (by decide +kernel), List.mem_of_getElem? (i := 955) (by decide +kernel), List.mem_of_getElem? (i := 956) (by decide +kernel)⟩
theorem lw_p31 : lw_okq (⟨"ClothEnds$WhichPlan", "shortenFraction", "()V"⟩, 9) := ⟨⟨by decide +kernel, by decide +kernel⟩, List.mem_of_getElem? (i := 387) (by decide +kernel), List.mem_of_getElem? (i := 967) (by decide +kernel), List.mem_of_getElem? (i := 968) (by decide +kernel)⟩
def lw_privs_2 : List (MethodName × Nat) := [(⟨"ClothEnds", "carryOff", "(III)I"⟩, 14), (⟨"ClothEnds", "refuse", "(I)I"⟩, 14), (⟨"ClothEnds", "hasRule", "(I)Z"⟩, 14), (⟨"ClothEnds$Stand", "bestBale", "(LClothEnds$Rule;I)I"⟩, 14), (⟨"ClothEnds$Stand", "setWords", "(II)V"⟩, 14), (⟨"ClothEnds$Rule", "holds", "(I[J)Z"⟩, 8), (⟨"ClothEnds$Rule", "run", "(II[J)J"⟩, 8), (⟨"ClothEnds$Stand", "draw", "()I"⟩, 14), (⟨"ClothEnds$KnownPlan", "addUp", "(LClothEnds$Told;)V"⟩, 5), (⟨"ClothEnds$KnownPlan", "addBale", "(III)V"⟩, 5), (⟨"ClothEnds$KnownPlan", "choose", "(I)V"⟩, 5), (⟨"ClothEnds$WhichPlan", "takesBales", "(LClothEnds$Shop;)Z"⟩, 9), (⟨"ClothEnds$WhichPlan", "takesWeights", "(LClothEnds$Told;)Z"⟩, 9), (⟨"ClothEnds$WhichPlan", "rest", "(III)I"⟩, 9), (⟨"ClothEnds$WhichPlan", "behind", "(II)I"⟩, 9), (⟨"ClothEnds$WhichPlan", "shortenFraction", "()V"⟩, 9)]
theorem lw_r2 : ∀ q ∈ lw_privs_2, lw_okq q := List.forall_mem_cons.mpr ⟨lw_p16, List.forall_mem_cons.mpr ⟨lw_p17, List.forall_mem_cons.mpr ⟨lw_p18, List.forall_mem_cons.mpr ⟨lw_p19, List.forall_mem_cons.mpr ⟨lw_p20, List.forall_mem_cons.mpr ⟨lw_p21, List.forall_mem_cons.mpr ⟨lw_p22, List.forall_mem_cons.mpr ⟨lw_p23, List.forall_mem_cons.mpr ⟨lw_p24, List.forall_mem_cons.mpr ⟨lw_p25, List.forall_mem_cons.mpr ⟨lw_p26, List.forall_mem_cons.mpr ⟨lw_p27, List.forall_mem_cons.mpr ⟨lw_p28, List.forall_mem_cons.mpr ⟨lw_p29, List.forall_mem_cons.mpr ⟨lw_p30, List.forall_mem_cons.mpr ⟨lw_p31, fun _ h => absurd h List.not_mem_nil⟩⟩⟩⟩⟩⟩⟩⟩⟩⟩⟩⟩⟩⟩⟩⟩
theorem lw_p32 : lw_okq (⟨"ClothEnds$Forms", "worthWith", "(LClothEnds$Shop;II)I"⟩, 3) := ⟨⟨by decide +kernel, by decide +kernel⟩, List.mem_of_getElem? (i := 346) (by decide +kernel), List.mem_of_getElem? (i := 1018) (by decide +kernel), List.mem_of_getElem? (i := 1019) (by decide +kernel)⟩
theorem lw_p33 : lw_okq (⟨"ClothEnds$Forms", "gainOfPairs", "(LClothEnds$Stand;I)I"⟩, 3) := ⟨⟨by decide +kernel, by decide +kernel⟩, List.mem_of_getElem? (i := 346) (by decide +kernel), List.mem_of_getElem? (i := 1023) (by decide +kernel), List.mem_of_getElem? (i := 1024) (by decide +kernel)⟩
theorem lw_p34 : lw_okq (⟨"ClothEnds$Forms", "leastAlone", "(LClothEnds$Stand;II)I"⟩, 3) := ⟨⟨by decide +kernel, by decide +kernel⟩, List.mem_of_getElem? (i := 346) (by decide +kernel), List.mem_of_getElem? (i := 1027) (by decide +kernel), List.mem_of_getElem? (i := 1028) (by decide +kernel)⟩
theorem lw_p35 : lw_okq (⟨"ClothEnds$SalePlan", "addWeek", "(LClothEnds$Told;I)V"⟩, 4) := ⟨⟨by decide +kernel, by decide +kernel⟩, List.mem_of_getElem? (i := 424) (by decide +kernel), List.mem_of_getElem? (i := 1064) (by decide +kernel), List.mem_of_getElem? (i := 1065) (by decide +kernel)⟩
theorem lw_p36 : lw_okq (⟨"ClothEnds$SalePlan", "coinsBy", "(LClothEnds$Told;II)I"⟩, 4) := ⟨⟨by decide +kernel, by decide +kernel⟩, List.mem_of_getElem? (i := 424) (by decide +kernel), List.mem_of_getElem? (i := 1068) (by decide +kernel), List.mem_of_getElem? (i := 1069) (by decide +kernel)⟩
theorem lw_p37 : lw_okq (⟨"ClothEndsModel", "put", "(I)V"⟩, 71) := ⟨⟨by decide +kernel, by decide +kernel⟩, List.mem_of_getElem? (i := 1112) (by decide +kernel), List.mem_of_getElem? (i := 1336) (by decide +kernel), List.mem_of_getElem? (i := 1337) (by decide +kernel)⟩
theorem lw_p38 : lw_okq (⟨"ClothEndsModel", "starts", "()V"⟩, 71) := ⟨⟨by decide +kernel, by decide +kernel⟩, List.mem_of_getElem? (i := 1112) (by decide +kernel), List.mem_of_getElem? (i := 1348) (by decide +kernel), List.mem_of_getElem? (i := 1349) (by decide +kernel)⟩
theorem lw_p39 : lw_okq (⟨"ClothEndsModel", "shopClause", "(I)V"⟩, 71) := ⟨⟨by decide +kernel, by decide +kernel⟩, List.mem_of_getElem? (i := 1112) (by decide +kernel), List.mem_of_getElem? (i := 1352) (by decide +kernel), List.mem_of_getElem? (i := 1353) (by decide +kernel)⟩
theorem lw_p40 : lw_okq (⟨"ClothEndsModel", "blanks", "()V"⟩, 71) := ⟨⟨by decide +kernel, by decide +kernel⟩, List.mem_of_getElem? (i := 1112) (by decide +kernel), List.mem_of_getElem? (i := 1356) (by decide +kernel), List.mem_of_getElem? (i := 1357) (by decide +kernel)⟩
theorem lw_p41 : lw_okq (⟨"ClothEndsModel", "sign", "()I"⟩, 71) := ⟨⟨by decide +kernel, by decide +kernel⟩, List.mem_of_getElem? (i := 1112) (by decide +kernel), List.mem_of_getElem? (i := 1360) (by decide +kernel), List.mem_of_getElem? (i := 1361) (by decide +kernel)⟩
theorem lw_p42 : lw_okq (⟨"ClothEndsModel", "stood", "(Ljava/lang/String;)Z"⟩, 71) := ⟨⟨by decide +kernel, by decide +kernel⟩, List.mem_of_getElem? (i := 1112) (by decide +kernel), List.mem_of_getElem? (i := 1374) (by decide +kernel), List.mem_of_getElem? (i := 1375) (by decide +kernel)⟩
theorem lw_p43 : lw_okq (⟨"ClothEndsModel", "fails", "(II)V"⟩, 71) := ⟨⟨by decide +kernel, by decide +kernel⟩, List.mem_of_getElem? (i := 1112) (by decide +kernel), List.mem_of_getElem? (i := 1380) (by decide +kernel), List.mem_of_getElem? (i := 1381) (by decide +kernel)⟩
theorem lw_p44 : lw_okq (⟨"ClothEndsModel", "isFull", "(II)Z"⟩, 71) := ⟨⟨by decide +kernel, by decide +kernel⟩, List.mem_of_getElem? (i := 1112) (by decide +kernel), List.mem_of_getElem? (i := 1384) (by decide +kernel), List.mem_of_getElem? (i := 1385) (by decide +kernel)⟩
theorem lw_p45 : lw_okq (⟨"ClothEndsModel", "shopPart", "(I)V"⟩, 71) := ⟨⟨by decide +kernel, by decide +kernel⟩, List.mem_of_getElem? (i := 1112) (by decide +kernel), List.mem_of_getElem? (i := 1391) (by decide +kernel), List.mem_of_getElem? (i := 1392) (by decide +kernel)⟩
theorem lw_p46 : lw_okq (⟨"ClothEndsModel", "amount", "(II)I"⟩, 71) := ⟨⟨by decide +kernel, by decide +kernel⟩, List.mem_of_getElem? (i := 1112) (by decide +kernel), List.mem_of_getElem? (i := 1395) (by decide +kernel), List.mem_of_getElem? (i := 1396) (by decide +kernel)⟩
theorem lw_p47 : lw_okq (⟨"ClothEndsModel", "digits", "(I)I"⟩, 71) := ⟨⟨by decide +kernel, by decide +kernel⟩, List.mem_of_getElem? (i := 1112) (by decide +kernel), List.mem_of_getElem? (i := 1400) (by decide +kernel), List.mem_of_getElem? (i := 1401) (by decide +kernel)⟩
def lw_privs_3 : List (MethodName × Nat) := [(⟨"ClothEnds$Forms", "worthWith", "(LClothEnds$Shop;II)I"⟩, 3), (⟨"ClothEnds$Forms", "gainOfPairs", "(LClothEnds$Stand;I)I"⟩, 3), (⟨"ClothEnds$Forms", "leastAlone", "(LClothEnds$Stand;II)I"⟩, 3), (⟨"ClothEnds$SalePlan", "addWeek", "(LClothEnds$Told;I)V"⟩, 4), (⟨"ClothEnds$SalePlan", "coinsBy", "(LClothEnds$Told;II)I"⟩, 4), (⟨"ClothEndsModel", "put", "(I)V"⟩, 71), (⟨"ClothEndsModel", "starts", "()V"⟩, 71), (⟨"ClothEndsModel", "shopClause", "(I)V"⟩, 71), (⟨"ClothEndsModel", "blanks", "()V"⟩, 71), (⟨"ClothEndsModel", "sign", "()I"⟩, 71), (⟨"ClothEndsModel", "stood", "(Ljava/lang/String;)Z"⟩, 71), (⟨"ClothEndsModel", "fails", "(II)V"⟩, 71), (⟨"ClothEndsModel", "isFull", "(II)Z"⟩, 71), (⟨"ClothEndsModel", "shopPart", "(I)V"⟩, 71), (⟨"ClothEndsModel", "amount", "(II)I"⟩, 71), (⟨"ClothEndsModel", "digits", "(I)I"⟩, 71)]
theorem lw_r3 : ∀ q ∈ lw_privs_3, lw_okq q := List.forall_mem_cons.mpr ⟨lw_p32, List.forall_mem_cons.mpr ⟨lw_p33, List.forall_mem_cons.mpr ⟨lw_p34, List.forall_mem_cons.mpr ⟨lw_p35, List.forall_mem_cons.mpr ⟨lw_p36, List.forall_mem_cons.mpr ⟨lw_p37, List.forall_mem_cons.mpr ⟨lw_p38, List.forall_mem_cons.mpr ⟨lw_p39, List.forall_mem_cons.mpr ⟨lw_p40, List.forall_mem_cons.mpr ⟨lw_p41, List.forall_mem_cons.mpr ⟨lw_p42, List.forall_mem_cons.mpr ⟨lw_p43, List.forall_mem_cons.mpr ⟨lw_p44, List.forall_mem_cons.mpr ⟨lw_p45, List.forall_mem_cons.mpr ⟨lw_p46, List.forall_mem_cons.mpr ⟨lw_p47, fun _ h => absurd h List.not_mem_nil⟩⟩⟩⟩⟩⟩⟩⟩⟩⟩⟩⟩⟩⟩⟩⟩
theorem lw_p48 : lw_okq (⟨"ClothEndsModel", "isDigit", "()Z"⟩, 71) := ⟨⟨by decide +kernel, by decide +kernel⟩, List.mem_of_getElem? (i := 1112) (by decide +kernel), List.mem_of_getElem? (i := 1404) (by decide +kernel), List.mem_of_getElem? (i := 1405) (by decide +kernel)⟩
theorem lw_p49 : lw_okq (⟨"ClothEndsModel", "goesOn", "()Z"⟩, 71) := ⟨⟨by decide +kernel, by decide +kernel⟩, List.mem_of_getElem? (i := 1112) (by decide +kernel), List.mem_of_getElem? (i := 1413) (by decide +kernel), List.mem_of_getElem? (i := 1414) (by decide +kernel)⟩
theorem lw_p50 : lw_okq (⟨"ClothEndsModel", "ruleClause", "(I)V"⟩, 71) := ⟨⟨by decide +kernel, by decide +kernel⟩, List.mem_of_getElem? (i := 1112) (by decide +kernel), List.mem_of_getElem? (i := 1424) (by decide +kernel), List.mem_of_getElem? (i := 1425) (by decide +kernel)⟩
theorem lw_p51 : lw_okq (⟨"ClothEndsModel", "sum", "()V"⟩, 71) := ⟨⟨by decide +kernel, by decide +kernel⟩, List.mem_of_getElem? (i := 1112) (by decide +kernel), List.mem_of_getElem? (i := 1430) (by decide +kernel), List.mem_of_getElem? (i := 1431) (by decide +kernel)⟩
theorem lw_p52 : lw_okq (⟨"ClothEndsModel", "term", "()V"⟩, 71) := ⟨⟨by decide +kernel, by decide +kernel⟩, List.mem_of_getElem? (i := 1112) (by decide +kernel), List.mem_of_getElem? (i := 1434) (by decide +kernel), List.mem_of_getElem? (i := 1435) (by decide +kernel)⟩
theorem lw_p53 : lw_okq (⟨"ClothEndsModel", "value", "()V"⟩, 71) := ⟨⟨by decide +kernel, by decide +kernel⟩, List.mem_of_getElem? (i := 1112) (by decide +kernel), List.mem_of_getElem? (i := 1438) (by decide +kernel), List.mem_of_getElem? (i := 1439) (by decide +kernel)⟩
theorem lw_p54 : lw_okq (⟨"ClothEndsModel", "isCounted", "(I)V"⟩, 71) := ⟨⟨by decide +kernel, by decide +kernel⟩, List.mem_of_getElem? (i := 1112) (by decide +kernel), List.mem_of_getElem? (i := 1442) (by decide +kernel), List.mem_of_getElem? (i := 1443) (by decide +kernel)⟩
theorem lw_p55 : lw_okq (⟨"ClothEndsModel", "entered", "(II)V"⟩, 71) := ⟨⟨by decide +kernel, by decide +kernel⟩, List.mem_of_getElem? (i := 1112) (by decide +kernel), List.mem_of_getElem? (i := 1446) (by decide +kernel), List.mem_of_getElem? (i := 1447) (by decide +kernel)⟩
theorem lw_p56 : lw_okq (⟨"ClothEndsModel", "takes", "(Ljava/lang/String;)Z"⟩, 71) := ⟨⟨by decide +kernel, by decide +kernel⟩, List.mem_of_getElem? (i := 1112) (by decide +kernel), List.mem_of_getElem? (i := 1462) (by decide +kernel), List.mem_of_getElem? (i := 1463) (by decide +kernel)⟩
theorem lw_p57 : lw_okq (⟨"ClothEndsModel", "test", "()V"⟩, 71) := ⟨⟨by decide +kernel, by decide +kernel⟩, List.mem_of_getElem? (i := 1112) (by decide +kernel), List.mem_of_getElem? (i := 1466) (by decide +kernel), List.mem_of_getElem? (i := 1467) (by decide +kernel)⟩
theorem lw_p58 : lw_okq (⟨"ClothEndsModel", "fact", "()Z"⟩, 71) := ⟨⟨by decide +kernel, by decide +kernel⟩, List.mem_of_getElem? (i := 1112) (by decide +kernel), List.mem_of_getElem? (i := 1470) (by decide +kernel), List.mem_of_getElem? (i := 1471) (by decide +kernel)⟩
theorem lw_p59 : lw_okq (⟨"ClothEndsModel", "opens", "(I)V"⟩, 71) := ⟨⟨by decide +kernel, by decide +kernel⟩, List.mem_of_getElem? (i := 1112) (by decide +kernel), List.mem_of_getElem? (i := 1475) (by decide +kernel), List.mem_of_getElem? (i := 1476) (by decide +kernel)⟩
theorem lw_p60 : lw_okq (⟨"ClothEndsModel", "compared", "()V"⟩, 71) := ⟨⟨by decide +kernel, by decide +kernel⟩, List.mem_of_getElem? (i := 1112) (by decide +kernel), List.mem_of_getElem? (i := 1479) (by decide +kernel), List.mem_of_getElem? (i := 1480) (by decide +kernel)⟩
theorem lw_p61 : lw_okq (⟨"ClothEndsModel", "answers", "(I)V"⟩, 71) := ⟨⟨by decide +kernel, by decide +kernel⟩, List.mem_of_getElem? (i := 1112) (by decide +kernel), List.mem_of_getElem? (i := 1483) (by decide +kernel), List.mem_of_getElem? (i := 1484) (by decide +kernel)⟩
theorem lw_p62 : lw_okq (⟨"ClothEndsModel", "top", "()I"⟩, 71) := ⟨⟨by decide +kernel, by decide +kernel⟩, List.mem_of_getElem? (i := 1112) (by decide +kernel), List.mem_of_getElem? (i := 1487) (by decide +kernel), List.mem_of_getElem? (i := 1488) (by decide +kernel)⟩
theorem lw_p63 : lw_okq (⟨"ClothEndsModel", "isBale", "(I)Z"⟩, 71) := ⟨⟨by decide +kernel, by decide +kernel⟩, List.mem_of_getElem? (i := 1112) (by decide +kernel), List.mem_of_getElem? (i := 1497) (by decide +kernel), List.mem_of_getElem? (i := 1498) (by decide +kernel)⟩
def lw_privs_4 : List (MethodName × Nat) := [(⟨"ClothEndsModel", "isDigit", "()Z"⟩, 71), (⟨"ClothEndsModel", "goesOn", "()Z"⟩, 71), (⟨"ClothEndsModel", "ruleClause", "(I)V"⟩, 71), (⟨"ClothEndsModel", "sum", "()V"⟩, 71), (⟨"ClothEndsModel", "term", "()V"⟩, 71), (⟨"ClothEndsModel", "value", "()V"⟩, 71), (⟨"ClothEndsModel", "isCounted", "(I)V"⟩, 71), (⟨"ClothEndsModel", "entered", "(II)V"⟩, 71), (⟨"ClothEndsModel", "takes", "(Ljava/lang/String;)Z"⟩, 71), (⟨"ClothEndsModel", "test", "()V"⟩, 71), (⟨"ClothEndsModel", "fact", "()Z"⟩, 71), (⟨"ClothEndsModel", "opens", "(I)V"⟩, 71), (⟨"ClothEndsModel", "compared", "()V"⟩, 71), (⟨"ClothEndsModel", "answers", "(I)V"⟩, 71), (⟨"ClothEndsModel", "top", "()I"⟩, 71), (⟨"ClothEndsModel", "isBale", "(I)Z"⟩, 71)]
theorem lw_r4 : ∀ q ∈ lw_privs_4, lw_okq q := List.forall_mem_cons.mpr ⟨lw_p48, List.forall_mem_cons.mpr ⟨lw_p49, List.forall_mem_cons.mpr ⟨lw_p50, List.forall_mem_cons.mpr ⟨lw_p51, List.forall_mem_cons.mpr ⟨lw_p52, List.forall_mem_cons.mpr ⟨lw_p53, List.forall_mem_cons.mpr ⟨lw_p54, List.forall_mem_cons.mpr ⟨lw_p55, List.forall_mem_cons.mpr ⟨lw_p56, List.forall_mem_cons.mpr ⟨lw_p57, List.forall_mem_cons.mpr ⟨lw_p58, List.forall_mem_cons.mpr ⟨lw_p59, List.forall_mem_cons.mpr ⟨lw_p60, List.forall_mem_cons.mpr ⟨lw_p61, List.forall_mem_cons.mpr ⟨lw_p62, List.forall_mem_cons.mpr ⟨lw_p63, fun _ h => absurd h List.not_mem_nil⟩⟩⟩⟩⟩⟩⟩⟩⟩⟩⟩⟩⟩⟩⟩⟩
theorem lw_p64 : lw_okq (⟨"ClothEndsModel", "flawsIn", "(II)I"⟩, 71) := ⟨⟨by decide +kernel, by decide +kernel⟩, List.mem_of_getElem? (i := 1112) (by decide +kernel), List.mem_of_getElem? (i := 1501) (by decide +kernel), List.mem_of_getElem? (i := 1502) (by decide +kernel)⟩
theorem lw_p65 : lw_okq (⟨"ClothEndsModel", "nearest", "(I)I"⟩, 71) := ⟨⟨by decide +kernel, by decide +kernel⟩, List.mem_of_getElem? (i := 1112) (by decide +kernel), List.mem_of_getElem? (i := 1505) (by decide +kernel), List.mem_of_getElem? (i := 1506) (by decide +kernel)⟩
theorem lw_p66 : lw_okq (⟨"ClothEndsModel", "isEnd", "(I)Z"⟩, 71) := ⟨⟨by decide +kernel, by decide +kernel⟩, List.mem_of_getElem? (i := 1112) (by decide +kernel), List.mem_of_getElem? (i := 1509) (by decide +kernel), List.mem_of_getElem? (i := 1510) (by decide +kernel)⟩
theorem lw_p67 : lw_okq (⟨"ClothEndsModel", "cutsBy", "(III)I"⟩, 71) := ⟨⟨by decide +kernel, by decide +kernel⟩, List.mem_of_getElem? (i := 1112) (by decide +kernel), List.mem_of_getElem? (i := 1517) (by decide +kernel), List.mem_of_getElem? (i := 1518) (by decide +kernel)⟩
theorem lw_p68 : lw_okq (⟨"ClothEndsModel", "refuses", "(I)I"⟩, 71) := ⟨⟨by decide +kernel, by decide +kernel⟩, List.mem_of_getElem? (i := 1112) (by decide +kernel), List.mem_of_getElem? (i := 1522) (by decide +kernel), List.mem_of_getElem? (i := 1523) (by decide +kernel)⟩
theorem lw_p69 : lw_okq (⟨"ClothEndsModel", "cuts", "(III)V"⟩, 71) := ⟨⟨by decide +kernel, by decide +kernel⟩, List.mem_of_getElem? (i := 1112) (by decide +kernel), List.mem_of_getElem? (i := 1526) (by decide +kernel), List.mem_of_getElem? (i := 1527) (by decide +kernel)⟩
theorem lw_p70 : lw_okq (⟨"ClothEndsModel", "taken", "(III)I"⟩, 71) := ⟨⟨by decide +kernel, by decide +kernel⟩, List.mem_of_getElem? (i := 1112) (by decide +kernel), List.mem_of_getElem? (i := 1530) (by decide +kernel), List.mem_of_getElem? (i := 1531) (by decide +kernel)⟩
theorem lw_p71 : lw_okq (⟨"ClothEndsModel", "takes0", "(II)V"⟩, 71) := ⟨⟨by decide +kernel, by decide +kernel⟩, List.mem_of_getElem? (i := 1112) (by decide +kernel), List.mem_of_getElem? (i := 1534) (by decide +kernel), List.mem_of_getElem? (i := 1535) (by decide +kernel)⟩
theorem lw_p72 : lw_okq (⟨"ClothEndsModel", "isInBasket", "(I)Z"⟩, 71) := ⟨⟨by decide +kernel, by decide +kernel⟩, List.mem_of_getElem? (i := 1112) (by decide +kernel), List.mem_of_getElem? (i := 1550) (by decide +kernel), List.mem_of_getElem? (i := 1551) (by decide +kernel)⟩
theorem lw_p73 : lw_okq (⟨"ClothEndsModel", "isRule", "(I)Z"⟩, 71) := ⟨⟨by decide +kernel, by decide +kernel⟩, List.mem_of_getElem? (i := 1112) (by decide +kernel), List.mem_of_getElem? (i := 1562) (by decide +kernel), List.mem_of_getElem? (i := 1563) (by decide +kernel)⟩
theorem lw_p74 : lw_okq (⟨"ClothEndsModel", "serves", "(II)I"⟩, 71) := ⟨⟨by decide +kernel, by decide +kernel⟩, List.mem_of_getElem? (i := 1112) (by decide +kernel), List.mem_of_getElem? (i := 1566) (by decide +kernel), List.mem_of_getElem? (i := 1567) (by decide +kernel)⟩
theorem lw_p75 : lw_okq (⟨"ClothEndsModel", "asks", "(II)V"⟩, 71) := ⟨⟨by decide +kernel, by decide +kernel⟩, List.mem_of_getElem? (i := 1112) (by decide +kernel), List.mem_of_getElem? (i := 1570) (by decide +kernel), List.mem_of_getElem? (i := 1571) (by decide +kernel)⟩
theorem lw_p76 : lw_okq (⟨"ClothEndsModel", "clauseOf", "(I)I"⟩, 71) := ⟨⟨by decide +kernel, by decide +kernel⟩, List.mem_of_getElem? (i := 1112) (by decide +kernel), List.mem_of_getElem? (i := 1574) (by decide +kernel), List.mem_of_getElem? (i := 1575) (by decide +kernel)⟩
theorem lw_p77 : lw_okq (⟨"ClothEndsModel", "holds", "(II)Z"⟩, 71) := ⟨⟨by decide +kernel, by decide +kernel⟩, List.mem_of_getElem? (i := 1112) (by decide +kernel), List.mem_of_getElem? (i := 1578) (by decide +kernel), List.mem_of_getElem? (i := 1579) (by decide +kernel)⟩
theorem lw_p78 : lw_okq (⟨"ClothEndsModel", "answer", "(III)J"⟩, 71) := ⟨⟨by decide +kernel, by decide +kernel⟩, List.mem_of_getElem? (i := 1112) (by decide +kernel), List.mem_of_getElem? (i := 1582) (by decide +kernel), List.mem_of_getElem? (i := 1583) (by decide +kernel)⟩
theorem lw_p79 : lw_okq (⟨"ClothEndsModel", "isGiven", "(I)Z"⟩, 71) := ⟨⟨by decide +kernel, by decide +kernel⟩, List.mem_of_getElem? (i := 1112) (by decide +kernel), List.mem_of_getElem? (i := 1592) (by decide +kernel), List.mem_of_getElem? (i := 1593) (by decide +kernel)⟩
def lw_privs_5 : List (MethodName × Nat) := [(⟨"ClothEndsModel", "flawsIn", "(II)I"⟩, 71), (⟨"ClothEndsModel", "nearest", "(I)I"⟩, 71), (⟨"ClothEndsModel", "isEnd", "(I)Z"⟩, 71), (⟨"ClothEndsModel", "cutsBy", "(III)I"⟩, 71), (⟨"ClothEndsModel", "refuses", "(I)I"⟩, 71), (⟨"ClothEndsModel", "cuts", "(III)V"⟩, 71), (⟨"ClothEndsModel", "taken", "(III)I"⟩, 71), (⟨"ClothEndsModel", "takes0", "(II)V"⟩, 71), (⟨"ClothEndsModel", "isInBasket", "(I)Z"⟩, 71), (⟨"ClothEndsModel", "isRule", "(I)Z"⟩, 71), (⟨"ClothEndsModel", "serves", "(II)I"⟩, 71), (⟨"ClothEndsModel", "asks", "(II)V"⟩, 71), (⟨"ClothEndsModel", "clauseOf", "(I)I"⟩, 71), (⟨"ClothEndsModel", "holds", "(II)Z"⟩, 71), (⟨"ClothEndsModel", "answer", "(III)J"⟩, 71), (⟨"ClothEndsModel", "isGiven", "(I)Z"⟩, 71)]
theorem lw_r5 : ∀ q ∈ lw_privs_5, lw_okq q := List.forall_mem_cons.mpr ⟨lw_p64, List.forall_mem_cons.mpr ⟨lw_p65, List.forall_mem_cons.mpr ⟨lw_p66, List.forall_mem_cons.mpr ⟨lw_p67, List.forall_mem_cons.mpr ⟨lw_p68, List.forall_mem_cons.mpr ⟨lw_p69, List.forall_mem_cons.mpr ⟨lw_p70, List.forall_mem_cons.mpr ⟨lw_p71, List.forall_mem_cons.mpr ⟨lw_p72, List.forall_mem_cons.mpr ⟨lw_p73, List.forall_mem_cons.mpr ⟨lw_p74, List.forall_mem_cons.mpr ⟨lw_p75, List.forall_mem_cons.mpr ⟨lw_p76, List.forall_mem_cons.mpr ⟨lw_p77, List.forall_mem_cons.mpr ⟨lw_p78, List.forall_mem_cons.mpr ⟨lw_p79, fun _ h => absurd h List.not_mem_nil⟩⟩⟩⟩⟩⟩⟩⟩⟩⟩⟩⟩⟩⟩⟩⟩
theorem lw_p80 : lw_okq (⟨"ClothEndsModel", "isDay", "(III)Z"⟩, 71) := ⟨⟨by decide +kernel, by decide +kernel⟩, List.mem_of_getElem? (i := 1112) (by decide +kernel), List.mem_of_getElem? (i := 1600) (by decide +kernel), List.mem_of_getElem? (i := 1601) (by decide +kernel)⟩
theorem lw_p81 : lw_okq (⟨"ClothEndsModel", "goesDay", "(III)I"⟩, 71) := ⟨⟨by decide +kernel, by decide +kernel⟩, List.mem_of_getElem? (i := 1112) (by decide +kernel), List.mem_of_getElem? (i := 1606) (by decide +kernel), List.mem_of_getElem? (i := 1607) (by decide +kernel)⟩
theorem lw_p82 : lw_okq (⟨"ClothEndsModel", "draws", "(I)I"⟩, 71) := ⟨⟨by decide +kernel, by decide +kernel⟩, List.mem_of_getElem? (i := 1112) (by decide +kernel), List.mem_of_getElem? (i := 1610) (by decide +kernel), List.mem_of_getElem? (i := 1611) (by decide +kernel)⟩
theorem lw_p83 : lw_okq (⟨"ClothEndsModel", "leftInAll", "()I"⟩, 71) := ⟨⟨by decide +kernel, by decide +kernel⟩, List.mem_of_getElem? (i := 1112) (by decide +kernel), List.mem_of_getElem? (i := 1624) (by decide +kernel), List.mem_of_getElem? (i := 1625) (by decide +kernel)⟩
theorem lw_p84 : lw_okq (⟨"ClothEndsModel", "sumOf", "(I)I"⟩, 71) := ⟨⟨by decide +kernel, by decide +kernel⟩, List.mem_of_getElem? (i := 1112) (by decide +kernel), List.mem_of_getElem? (i := 1637) (by decide +kernel), List.mem_of_getElem? (i := 1638) (by decide +kernel)⟩
theorem lw_p85 : lw_okq (⟨"ClothEndsModel", "wastedBy", "(II)I"⟩, 71) := ⟨⟨by decide +kernel, by decide +kernel⟩, List.mem_of_getElem? (i := 1112) (by decide +kernel), List.mem_of_getElem? (i := 1642) (by decide +kernel), List.mem_of_getElem? (i := 1643) (by decide +kernel)⟩
theorem lw_p86 : lw_okq (⟨"ClothEndsModel", "allWeights", "()I"⟩, 71) := ⟨⟨by decide +kernel, by decide +kernel⟩, List.mem_of_getElem? (i := 1112) (by decide +kernel), List.mem_of_getElem? (i := 1657) (by decide +kernel), List.mem_of_getElem? (i := 1658) (by decide +kernel)⟩
theorem lw_p87 : lw_okq (⟨"ClothEndsModel", "findsFew", "()Z"⟩, 71) := ⟨⟨by decide +kernel, by decide +kernel⟩, List.mem_of_getElem? (i := 1112) (by decide +kernel), List.mem_of_getElem? (i := 1661) (by decide +kernel), List.mem_of_getElem? (i := 1662) (by decide +kernel)⟩
theorem lw_p88 : lw_okq (⟨"ClothEndsModel", "fillsMeans", "(I)I"⟩, 71) := ⟨⟨by decide +kernel, by decide +kernel⟩, List.mem_of_getElem? (i := 1112) (by decide +kernel), List.mem_of_getElem? (i := 1666) (by decide +kernel), List.mem_of_getElem? (i := 1667) (by decide +kernel)⟩
theorem lw_p89 : lw_okq (⟨"ClothEndsModel", "mostFor", "(IIJI)J"⟩, 71) := ⟨⟨by decide +kernel, by decide +kernel⟩, List.mem_of_getElem? (i := 1112) (by decide +kernel), List.mem_of_getElem? (i := 1677) (by decide +kernel), List.mem_of_getElem? (i := 1678) (by decide +kernel)⟩
theorem lw_p90 : lw_okq (⟨"ClothEndsModel", "stateBehind", "(III)I"⟩, 71) := ⟨⟨by decide +kernel, by decide +kernel⟩, List.mem_of_getElem? (i := 1112) (by decide +kernel), List.mem_of_getElem? (i := 1681) (by decide +kernel), List.mem_of_getElem? (i := 1682) (by decide +kernel)⟩
theorem lw_p91 : lw_okq (⟨"ClothEndsModel", "dropsOf", "(II)I"⟩, 71) := ⟨⟨by decide +kernel, by decide +kernel⟩, List.mem_of_getElem? (i := 1112) (by decide +kernel), List.mem_of_getElem? (i := 1692) (by decide +kernel), List.mem_of_getElem? (i := 1693) (by decide +kernel)⟩
theorem lw_p92 : lw_okq (⟨"ClothEndsModel", "isSeam", "(IIII)Z"⟩, 71) := ⟨⟨by decide +kernel, by decide +kernel⟩, List.mem_of_getElem? (i := 1112) (by decide +kernel), List.mem_of_getElem? (i := 1709) (by decide +kernel), List.mem_of_getElem? (i := 1710) (by decide +kernel)⟩
theorem lw_p93 : lw_okq (⟨"ClothEndsModel", "fillsWorths", "(I)V"⟩, 71) := ⟨⟨by decide +kernel, by decide +kernel⟩, List.mem_of_getElem? (i := 1112) (by decide +kernel), List.mem_of_getElem? (i := 1718) (by decide +kernel), List.mem_of_getElem? (i := 1719) (by decide +kernel)⟩
theorem lw_p94 : lw_okq (⟨"ClothEndsModel", "pairOf", "(II)I"⟩, 71) := ⟨⟨by decide +kernel, by decide +kernel⟩, List.mem_of_getElem? (i := 1112) (by decide +kernel), List.mem_of_getElem? (i := 1726) (by decide +kernel), List.mem_of_getElem? (i := 1727) (by decide +kernel)⟩
theorem lw_p95 : lw_okq (⟨"ClothEndsModel", "coinsBy", "(IIII)I"⟩, 71) := ⟨⟨by decide +kernel, by decide +kernel⟩, List.mem_of_getElem? (i := 1112) (by decide +kernel), List.mem_of_getElem? (i := 1746) (by decide +kernel), List.mem_of_getElem? (i := 1747) (by decide +kernel)⟩
def lw_privs_6 : List (MethodName × Nat) := [(⟨"ClothEndsModel", "isDay", "(III)Z"⟩, 71), (⟨"ClothEndsModel", "goesDay", "(III)I"⟩, 71), (⟨"ClothEndsModel", "draws", "(I)I"⟩, 71), (⟨"ClothEndsModel", "leftInAll", "()I"⟩, 71), (⟨"ClothEndsModel", "sumOf", "(I)I"⟩, 71), (⟨"ClothEndsModel", "wastedBy", "(II)I"⟩, 71), (⟨"ClothEndsModel", "allWeights", "()I"⟩, 71), (⟨"ClothEndsModel", "findsFew", "()Z"⟩, 71), (⟨"ClothEndsModel", "fillsMeans", "(I)I"⟩, 71), (⟨"ClothEndsModel", "mostFor", "(IIJI)J"⟩, 71), (⟨"ClothEndsModel", "stateBehind", "(III)I"⟩, 71), (⟨"ClothEndsModel", "dropsOf", "(II)I"⟩, 71), (⟨"ClothEndsModel", "isSeam", "(IIII)Z"⟩, 71), (⟨"ClothEndsModel", "fillsWorths", "(I)V"⟩, 71), (⟨"ClothEndsModel", "pairOf", "(II)I"⟩, 71), (⟨"ClothEndsModel", "coinsBy", "(IIII)I"⟩, 71)]
theorem lw_r6 : ∀ q ∈ lw_privs_6, lw_okq q := List.forall_mem_cons.mpr ⟨lw_p80, List.forall_mem_cons.mpr ⟨lw_p81, List.forall_mem_cons.mpr ⟨lw_p82, List.forall_mem_cons.mpr ⟨lw_p83, List.forall_mem_cons.mpr ⟨lw_p84, List.forall_mem_cons.mpr ⟨lw_p85, List.forall_mem_cons.mpr ⟨lw_p86, List.forall_mem_cons.mpr ⟨lw_p87, List.forall_mem_cons.mpr ⟨lw_p88, List.forall_mem_cons.mpr ⟨lw_p89, List.forall_mem_cons.mpr ⟨lw_p90, List.forall_mem_cons.mpr ⟨lw_p91, List.forall_mem_cons.mpr ⟨lw_p92, List.forall_mem_cons.mpr ⟨lw_p93, List.forall_mem_cons.mpr ⟨lw_p94, List.forall_mem_cons.mpr ⟨lw_p95, fun _ h => absurd h List.not_mem_nil⟩⟩⟩⟩⟩⟩⟩⟩⟩⟩⟩⟩⟩⟩⟩⟩
theorem lw_p96 : lw_okq (⟨"ClothEndsModel", "soldBy", "(I)I"⟩, 71) := ⟨⟨by decide +kernel, by decide +kernel⟩, List.mem_of_getElem? (i := 1112) (by decide +kernel), List.mem_of_getElem? (i := 1769) (by decide +kernel), List.mem_of_getElem? (i := 1770) (by decide +kernel)⟩
theorem lw_p97 : lw_okq (⟨"ClothEndsModel", "carriesAll", "(IZ)V"⟩, 71) := ⟨⟨by decide +kernel, by decide +kernel⟩, List.mem_of_getElem? (i := 1112) (by decide +kernel), List.mem_of_getElem? (i := 1789) (by decide +kernel), List.mem_of_getElem? (i := 1790) (by decide +kernel)⟩
theorem lw_p98 : lw_okq (⟨"ClothEndsModel", "carry", "([I)V"⟩, 71) := ⟨⟨by decide +kernel, by decide +kernel⟩, List.mem_of_getElem? (i := 1112) (by decide +kernel), List.mem_of_getElem? (i := 1793) (by decide +kernel), List.mem_of_getElem? (i := 1794) (by decide +kernel)⟩
def lw_privs_7 : List (MethodName × Nat) := [(⟨"ClothEndsModel", "soldBy", "(I)I"⟩, 71), (⟨"ClothEndsModel", "carriesAll", "(IZ)V"⟩, 71), (⟨"ClothEndsModel", "carry", "([I)V"⟩, 71)]
theorem lw_r7 : ∀ q ∈ lw_privs_7, lw_okq q := List.forall_mem_cons.mpr ⟨lw_p96, List.forall_mem_cons.mpr ⟨lw_p97, List.forall_mem_cons.mpr ⟨lw_p98, fun _ h => absurd h List.not_mem_nil⟩⟩⟩
def lw_privs : List (MethodName × Nat) := lw_privs_1 ++ (lw_privs_2 ++ (lw_privs_3 ++ (lw_privs_4 ++ (lw_privs_5 ++ (lw_privs_6 ++ (lw_privs_7))))))
def lw_tbl : List Cond := k2_sels lw_privs ++ tables_1
theorem lw_privs_ok : ∀ q ∈ lw_privs, lw_okq q := by
  show ∀ q ∈ lw_privs_1 ++ (lw_privs_2 ++ (lw_privs_3 ++ (lw_privs_4 ++ (lw_privs_5 ++ (lw_privs_6 ++ (lw_privs_7)))))), lw_okq q
  exact List.forall_mem_append.mpr ⟨lw_r1, List.forall_mem_append.mpr ⟨lw_r2, List.forall_mem_append.mpr ⟨lw_r3, List.forall_mem_append.mpr ⟨lw_r4, List.forall_mem_append.mpr ⟨lw_r5, List.forall_mem_append.mpr ⟨lw_r6, lw_r7⟩⟩⟩⟩⟩⟩
def RX0 : String := "ClothEnds$Forms"
def TX0 : u_T := fun k => match k with
  | 0 => ("ClothEnds$Forms", "worth", "[I", true)
  | 1 => ("ClothEnds$Forms", "alone", "[I", true)
  | _ => ("ClothEnds$Forms", "paired", "[Z", true)
def tyX0 : Nat → FieldType := fun k => match k with
  | 0 => .array .int
  | 1 => .array .int
  | _ => .array .boolean
theorem nmX0 : ∀ a, a < 3 → ∀ b, b < 3 → a ≠ b → (TX0 a).2.1 ≠ (TX0 b).2.1 := by decide +kernel
theorem tyX0_ok : ∀ k, k < 3 → parseFieldDescriptor (TX0 k).2.2.1 = some (tyX0 k) := by decide +kernel
abbrev cX0_init : ByteArray := prog_2_method_1_code
def yX0_init : MethodName := ⟨RX0, "<init>", "()V"⟩
abbrev cX0_lay : ByteArray := prog_2_method_2_code
def yX0_lay : MethodName := ⟨RX0, "lay", "(LClothEnds$Shop;I)V"⟩
abbrev cX0_fits : ByteArray := prog_2_method_3_code
def yX0_fits : MethodName := ⟨RX0, "fits", "(LClothEnds$Shop;III)Z"⟩
abbrev cX0_worthWith : ByteArray := prog_2_method_4_code
def yX0_worthWith : MethodName := ⟨RX0, "worthWith", "(LClothEnds$Shop;II)I"⟩
abbrev cX0_worthOf : ByteArray := prog_2_method_5_code
def yX0_worthOf : MethodName := ⟨RX0, "worthOf", "(I)I"⟩
abbrev cX0_firstOf : ByteArray := prog_2_method_6_code
def yX0_firstOf : MethodName := ⟨RX0, "firstOf", "(LClothEnds$Shop;II)I"⟩
abbrev cX0_longestWorth : ByteArray := prog_2_method_7_code
def yX0_longestWorth : MethodName := ⟨RX0, "longestWorth", "(I)I"⟩
abbrev cX0_worthOfBasket : ByteArray := prog_2_method_8_code
def yX0_worthOfBasket : MethodName := ⟨RX0, "worthOfBasket", "(LClothEnds$Stand;)I"⟩
abbrev cX0_gainOfPairs : ByteArray := prog_2_method_9_code
def yX0_gainOfPairs : MethodName := ⟨RX0, "gainOfPairs", "(LClothEnds$Stand;I)I"⟩
abbrev cX0_leastAlone : ByteArray := prog_2_method_10_code
def yX0_leastAlone : MethodName := ⟨RX0, "leastAlone", "(LClothEnds$Stand;II)I"⟩
def RX1 : String := "ClothEnds$KnownPlan"
def TX1 : u_T := fun k => match k with
  | 0 => ("ClothEnds$KnownPlan", "eighths", "[I", true)
  | 1 => ("ClothEnds$KnownPlan", "cost", "[I", true)
  | 2 => ("ClothEnds$KnownPlan", "sold", "I", false)
  | 3 => ("ClothEnds$KnownPlan", "bales", "I", false)
  | _ => ("ClothEnds$KnownPlan", "lost", "I", false)
def tyX1 : Nat → FieldType := fun k => match k with
  | 0 => .array .int
  | 1 => .array .int
  | 2 => .int
  | 3 => .int
  | _ => .int
theorem nmX1 : ∀ a, a < 5 → ∀ b, b < 5 → a ≠ b → (TX1 a).2.1 ≠ (TX1 b).2.1 := by decide +kernel
theorem tyX1_ok : ∀ k, k < 5 → parseFieldDescriptor (TX1 k).2.2.1 = some (tyX1 k) := by decide +kernel
abbrev cX1_init : ByteArray := prog_3_method_1_code
def yX1_init : MethodName := ⟨RX1, "<init>", "()V"⟩
abbrev cX1_work : ByteArray := prog_3_method_2_code
def yX1_work : MethodName := ⟨RX1, "work", "(LClothEnds$Shop;LClothEnds$Told;)V"⟩
abbrev cX1_addUp : ByteArray := prog_3_method_3_code
def yX1_addUp : MethodName := ⟨RX1, "addUp", "(LClothEnds$Told;)V"⟩
abbrev cX1_addBale : ByteArray := prog_3_method_4_code
def yX1_addBale : MethodName := ⟨RX1, "addBale", "(III)V"⟩
abbrev cX1_choose : ByteArray := prog_3_method_5_code
def yX1_choose : MethodName := ⟨RX1, "choose", "(I)V"⟩
def RX2 : String := "ClothEnds$Rule"
def TX2 : u_T := fun k => match k with
  | 0 => ("ClothEnds$Rule", "steps", "[I", true)
  | 1 => ("ClothEnds$Rule", "size", "I", false)
  | 2 => ("ClothEnds$Rule", "isFrom", "[Z", true)
  | 3 => ("ClothEnds$Rule", "sumStart", "[I", true)
  | 4 => ("ClothEnds$Rule", "testStart", "[I", true)
  | 5 => ("ClothEnds$Rule", "stop", "[I", true)
  | 6 => ("ClothEnds$Rule", "clauses", "I", false)
  | _ => ("ClothEnds$Rule", "pile", "[J", true)
def tyX2 : Nat → FieldType := fun k => match k with
  | 0 => .array .int
  | 1 => .int
  | 2 => .array .boolean
  | 3 => .array .int
  | 4 => .array .int
  | 5 => .array .int
  | 6 => .int
  | _ => .array .long
theorem nmX2 : ∀ a, a < 8 → ∀ b, b < 8 → a ≠ b → (TX2 a).2.1 ≠ (TX2 b).2.1 := by decide +kernel
theorem tyX2_ok : ∀ k, k < 8 → parseFieldDescriptor (TX2 k).2.2.1 = some (tyX2 k) := by decide +kernel
abbrev cX2_init : ByteArray := prog_4_method_1_code
def yX2_init : MethodName := ⟨RX2, "<init>", "()V"⟩
abbrev cX2_clear : ByteArray := prog_4_method_2_code
def yX2_clear : MethodName := ⟨RX2, "clear", "()V"⟩
abbrev cX2_copyFrom : ByteArray := prog_4_method_3_code
def yX2_copyFrom : MethodName := ⟨RX2, "copyFrom", "(LClothEnds$Rule;)V"⟩
abbrev cX2_beginClause : ByteArray := prog_4_method_4_code
def yX2_beginClause : MethodName := ⟨RX2, "beginClause", "(Z)V"⟩
abbrev cX2_beginTest : ByteArray := prog_4_method_5_code
def yX2_beginTest : MethodName := ⟨RX2, "beginTest", "()V"⟩
abbrev cX2_append : ByteArray := prog_4_method_6_code
def yX2_append : MethodName := ⟨RX2, "append", "(II)V"⟩
abbrev cX2_clauseFor : ByteArray := prog_4_method_7_code
def yX2_clauseFor : MethodName := ⟨RX2, "clauseFor", "([J)I"⟩
abbrev cX2_sumOf : ByteArray := prog_4_method_8_code
def yX2_sumOf : MethodName := ⟨RX2, "sumOf", "(I[J)J"⟩
abbrev cX2_gives : ByteArray := prog_4_method_9_code
def yX2_gives : MethodName := ⟨RX2, "gives", "([J)Z"⟩
abbrev cX2_holds : ByteArray := prog_4_method_10_code
def yX2_holds : MethodName := ⟨RX2, "holds", "(I[J)Z"⟩
abbrev cX2_run : ByteArray := prog_4_method_11_code
def yX2_run : MethodName := ⟨RX2, "run", "(II[J)J"⟩
abbrev cX2_join : ByteArray := prog_4_method_12_code
def yX2_join : MethodName := ⟨RX2, "join", "(IJJ)J"⟩
def RX3 : String := "ClothEnds$RuleReader"
def TX3 : u_T := fun k => match k with
  | 0 => ("ClothEnds$RuleReader", "draft", "LClothEnds$Rule;", true)
  | 1 => ("ClothEnds$RuleReader", "parts", "I", false)
  | 2 => ("ClothEnds$RuleReader", "sign", "I", false)
  | 3 => ("ClothEnds$RuleReader", "waiting", "[I", true)
  | 4 => ("ClothEnds$RuleReader", "waits", "I", false)
  | 5 => ("ClothEnds$RuleReader", "open", "I", false)
  | _ => ("ClothEnds$RuleReader", "deep", "I", false)
def tyX3 : Nat → FieldType := fun k => match k with
  | 0 => .object "ClothEnds$Rule"
  | 1 => .int
  | 2 => .int
  | 3 => .array .int
  | 4 => .int
  | 5 => .int
  | _ => .int
theorem nmX3 : ∀ a, a < 7 → ∀ b, b < 7 → a ≠ b → (TX3 a).2.1 ≠ (TX3 b).2.1 := by decide +kernel
theorem tyX3_ok : ∀ k, k < 7 → parseFieldDescriptor (TX3 k).2.2.1 = some (tyX3 k) := by decide +kernel
abbrev cX3_init : ByteArray := prog_5_method_1_code
def yX3_init : MethodName := ⟨RX3, "<init>", "()V"⟩
abbrev cX3_read : ByteArray := prog_5_method_2_code
def yX3_read : MethodName := ⟨RX3, "read", "(LClothEnds$Text;)I"⟩
abbrev cX3_readClause : ByteArray := prog_5_method_3_code
def yX3_readClause : MethodName := ⟨RX3, "readClause", "(LClothEnds$Text;Z)I"⟩
abbrev cX3_clauseEnd : ByteArray := prog_5_method_4_code
def yX3_clauseEnd : MethodName := ⟨RX3, "clauseEnd", "(LClothEnds$Text;I)I"⟩
abbrev cX3_readTest : ByteArray := prog_5_method_5_code
def yX3_readTest : MethodName := ⟨RX3, "readTest", "(LClothEnds$Text;)I"⟩
abbrev cX3_readOpenings : ByteArray := prog_5_method_6_code
def yX3_readOpenings : MethodName := ⟨RX3, "readOpenings", "(LClothEnds$Text;)I"⟩
abbrev cX3_readOpening : ByteArray := prog_5_method_7_code
def yX3_readOpening : MethodName := ⟨RX3, "readOpening", "(LClothEnds$Text;)I"⟩
abbrev cX3_closeBrackets : ByteArray := prog_5_method_8_code
def yX3_closeBrackets : MethodName := ⟨RX3, "closeBrackets", "(LClothEnds$Text;)V"⟩
abbrev cX3_settleNots : ByteArray := prog_5_method_9_code
def yX3_settleNots : MethodName := ⟨RX3, "settleNots", "()V"⟩
abbrev cX3_settle : ByteArray := prog_5_method_10_code
def yX3_settle : MethodName := ⟨RX3, "settle", "(Z)V"⟩
abbrev cX3_hold : ByteArray := prog_5_method_11_code
def yX3_hold : MethodName := ⟨RX3, "hold", "(I)V"⟩
abbrev cX3_readSum : ByteArray := prog_5_method_12_code
def yX3_readSum : MethodName := ⟨RX3, "readSum", "(LClothEnds$Text;)I"⟩
abbrev cX3_readValue : ByteArray := prog_5_method_13_code
def yX3_readValue : MethodName := ⟨RX3, "readValue", "(LClothEnds$Text;)I"⟩
abbrev cX3_readBetween : ByteArray := prog_5_method_14_code
def yX3_readBetween : MethodName := ⟨RX3, "readBetween", "(LClothEnds$Text;)I"⟩
abbrev cX3_readSign : ByteArray := prog_5_method_15_code
def yX3_readSign : MethodName := ⟨RX3, "readSign", "(LClothEnds$Text;)I"⟩
def RX4 : String := "ClothEnds$SalePlan"
def TX4 : u_T := fun k => match k with
  | 0 => ("ClothEnds$SalePlan", "follow", "[I", true)
  | 1 => ("ClothEnds$SalePlan", "lost", "I", false)
  | 2 => ("ClothEnds$SalePlan", "coins", "I", false)
  | _ => ("ClothEnds$SalePlan", "first", "I", false)
def tyX4 : Nat → FieldType := fun k => match k with
  | 0 => .array .int
  | 1 => .int
  | 2 => .int
  | _ => .int
theorem nmX4 : ∀ a, a < 4 → ∀ b, b < 4 → a ≠ b → (TX4 a).2.1 ≠ (TX4 b).2.1 := by decide +kernel
theorem tyX4_ok : ∀ k, k < 4 → parseFieldDescriptor (TX4 k).2.2.1 = some (tyX4 k) := by decide +kernel
abbrev cX4_init : ByteArray := prog_6_method_1_code
def yX4_init : MethodName := ⟨RX4, "<init>", "()V"⟩
abbrev cX4_work : ByteArray := prog_6_method_2_code
def yX4_work : MethodName := ⟨RX4, "work", "(LClothEnds$Told;III)V"⟩
abbrev cX4_addWeek : ByteArray := prog_6_method_3_code
def yX4_addWeek : MethodName := ⟨RX4, "addWeek", "(LClothEnds$Told;I)V"⟩
abbrev cX4_coinsBy : ByteArray := prog_6_method_4_code
def yX4_coinsBy : MethodName := ⟨RX4, "coinsBy", "(LClothEnds$Told;II)I"⟩
def RX5 : String := "ClothEnds$Shop"
def TX5 : u_T := fun k => match k with
  | 0 => ("ClothEnds$Shop", "eighths", "[I", true)
  | 1 => ("ClothEnds$Shop", "width", "[I", true)
  | 2 => ("ClothEnds$Shop", "lot", "[I", true)
  | 3 => ("ClothEnds$Shop", "stripe", "[I", true)
  | 4 => ("ClothEnds$Shop", "bales", "I", false)
  | 5 => ("ClothEnds$Shop", "flawBale", "[I", true)
  | 6 => ("ClothEnds$Shop", "flawPlace", "[I", true)
  | 7 => ("ClothEnds$Shop", "flaws", "I", false)
  | 8 => ("ClothEnds$Shop", "thumb", "I", false)
  | 9 => ("ClothEnds$Shop", "askew", "I", false)
  | 10 => ("ClothEnds$Shop", "board", "I", false)
  | 11 => ("ClothEnds$Shop", "formLength", "[I", true)
  | 12 => ("ClothEnds$Shop", "formWidth", "[I", true)
  | 13 => ("ClothEnds$Shop", "formWorth", "[I", true)
  | 14 => ("ClothEnds$Shop", "forms", "I", false)
  | 15 => ("ClothEnds$Shop", "pairLength", "I", false)
  | _ => ("ClothEnds$Shop", "pairWorth", "I", false)
def tyX5 : Nat → FieldType := fun k => match k with
  | 0 => .array .int
  | 1 => .array .int
  | 2 => .array .int
  | 3 => .array .int
  | 4 => .int
  | 5 => .array .int
  | 6 => .array .int
  | 7 => .int
  | 8 => .int
  | 9 => .int
  | 10 => .int
  | 11 => .array .int
  | 12 => .array .int
  | 13 => .array .int
  | 14 => .int
  | 15 => .int
  | _ => .int
theorem nmX5 : ∀ a, a < 17 → ∀ b, b < 17 → a ≠ b → (TX5 a).2.1 ≠ (TX5 b).2.1 := by decide +kernel
theorem tyX5_ok : ∀ k, k < 17 → parseFieldDescriptor (TX5 k).2.2.1 = some (tyX5 k) := by decide +kernel
abbrev cX5_init : ByteArray := prog_7_method_1_code
def yX5_init : MethodName := ⟨RX5, "<init>", "()V"⟩
abbrev cX5_clear : ByteArray := prog_7_method_2_code
def yX5_clear : MethodName := ⟨RX5, "clear", "()V"⟩
abbrev cX5_copyFrom : ByteArray := prog_7_method_3_code
def yX5_copyFrom : MethodName := ⟨RX5, "copyFrom", "(LClothEnds$Shop;)V"⟩
abbrev cX5_has : ByteArray := prog_7_method_4_code
def yX5_has : MethodName := ⟨RX5, "has", "(I)Z"⟩
abbrev cX5_hasEnd : ByteArray := prog_7_method_5_code
def yX5_hasEnd : MethodName := ⟨RX5, "hasEnd", "(I)Z"⟩
abbrev cX5_eighthsLeft : ByteArray := prog_7_method_6_code
def yX5_eighthsLeft : MethodName := ⟨RX5, "eighthsLeft", "()I"⟩
abbrev cX5_flawsWithin : ByteArray := prog_7_method_7_code
def yX5_flawsWithin : MethodName := ⟨RX5, "flawsWithin", "(II)I"⟩
abbrev cX5_nearestFlaw : ByteArray := prog_7_method_8_code
def yX5_nearestFlaw : MethodName := ⟨RX5, "nearestFlaw", "(I)I"⟩
abbrev cX5_restBehind : ByteArray := prog_7_method_9_code
def yX5_restBehind : MethodName := ⟨RX5, "restBehind", "(III)I"⟩
abbrev cX5_shorten : ByteArray := prog_7_method_10_code
def yX5_shorten : MethodName := ⟨RX5, "shorten", "(II)V"⟩
abbrev cX5_dropsOf : ByteArray := prog_7_method_11_code
def yX5_dropsOf : MethodName := ⟨RX5, "dropsOf", "(II)I"⟩
abbrev cX5_dropsOfLot : ByteArray := prog_7_method_12_code
def yX5_dropsOfLot : MethodName := ⟨RX5, "dropsOfLot", "(II)I"⟩
abbrev cX5_hidesFlaws : ByteArray := prog_7_method_13_code
def yX5_hidesFlaws : MethodName := ⟨RX5, "hidesFlaws", "(IIII)Z"⟩
def RX6 : String := "ClothEnds$ShopReader"
def TX6 : u_T := fun k => match k with
  | 0 => ("ClothEnds$ShopReader", "draft", "LClothEnds$Shop;", true)
  | 1 => ("ClothEnds$ShopReader", "numbers", "[I", true)
  | _ => ("ClothEnds$ShopReader", "told", "[I", true)
def tyX6 : Nat → FieldType := fun k => match k with
  | 0 => .object "ClothEnds$Shop"
  | 1 => .array .int
  | _ => .array .int
theorem nmX6 : ∀ a, a < 3 → ∀ b, b < 3 → a ≠ b → (TX6 a).2.1 ≠ (TX6 b).2.1 := by decide +kernel
theorem tyX6_ok : ∀ k, k < 3 → parseFieldDescriptor (TX6 k).2.2.1 = some (tyX6 k) := by decide +kernel
abbrev cX6_init : ByteArray := prog_8_method_1_code
def yX6_init : MethodName := ⟨RX6, "<init>", "()V"⟩
abbrev cX6_read : ByteArray := prog_8_method_2_code
def yX6_read : MethodName := ⟨RX6, "read", "(LClothEnds$Text;)I"⟩
abbrev cX6_readClause : ByteArray := prog_8_method_3_code
def yX6_readClause : MethodName := ⟨RX6, "readClause", "(LClothEnds$Text;Z)I"⟩
abbrev cX6_most : ByteArray := prog_8_method_4_code
def yX6_most : MethodName := ⟨RX6, "most", "(II)I"⟩
abbrev cX6_keep : ByteArray := prog_8_method_5_code
def yX6_keep : MethodName := ⟨RX6, "keep", "(II)V"⟩
def RX7 : String := "ClothEnds$Stand"
def TX7 : u_T := fun k => match k with
  | 0 => ("ClothEnds$Stand", "shop", "LClothEnds$Shop;", true)
  | 1 => ("ClothEnds$Stand", "told", "LClothEnds$Told;", true)
  | 2 => ("ClothEnds$Stand", "endLength", "[I", true)
  | 3 => ("ClothEnds$Stand", "endWidth", "[I", true)
  | 4 => ("ClothEnds$Stand", "endLot", "[I", true)
  | 5 => ("ClothEnds$Stand", "endFlaws", "[I", true)
  | 6 => ("ClothEnds$Stand", "ends", "I", false)
  | 7 => ("ClothEnds$Stand", "sold", "I", false)
  | 8 => ("ClothEnds$Stand", "lost", "I", false)
  | 9 => ("ClothEnds$Stand", "given", "I", false)
  | 10 => ("ClothEnds$Stand", "refused", "I", false)
  | 11 => ("ClothEnds$Stand", "day", "I", false)
  | 12 => ("ClothEnds$Stand", "x", "I", false)
  | _ => ("ClothEnds$Stand", "words", "[J", true)
def tyX7 : Nat → FieldType := fun k => match k with
  | 0 => .object "ClothEnds$Shop"
  | 1 => .object "ClothEnds$Told"
  | 2 => .array .int
  | 3 => .array .int
  | 4 => .array .int
  | 5 => .array .int
  | 6 => .int
  | 7 => .int
  | 8 => .int
  | 9 => .int
  | 10 => .int
  | 11 => .int
  | 12 => .int
  | _ => .array .long
theorem nmX7 : ∀ a, a < 14 → ∀ b, b < 14 → a ≠ b → (TX7 a).2.1 ≠ (TX7 b).2.1 := by decide +kernel
theorem tyX7_ok : ∀ k, k < 14 → parseFieldDescriptor (TX7 k).2.2.1 = some (tyX7 k) := by decide +kernel
abbrev cX7_init : ByteArray := prog_9_method_1_code
def yX7_init : MethodName := ⟨RX7, "<init>", "()V"⟩
abbrev cX7_copyFrom : ByteArray := prog_9_method_2_code
def yX7_copyFrom : MethodName := ⟨RX7, "copyFrom", "(LClothEnds$Stand;)V"⟩
abbrev cX7_open : ByteArray := prog_9_method_3_code
def yX7_open : MethodName := ⟨RX7, "open", "(LClothEnds$Shop;)V"⟩
abbrev cX7_clearCounts : ByteArray := prog_9_method_4_code
def yX7_clearCounts : MethodName := ⟨RX7, "clearCounts", "()V"⟩
abbrev cX7_hasEnd : ByteArray := prog_9_method_5_code
def yX7_hasEnd : MethodName := ⟨RX7, "hasEnd", "(I)Z"⟩
abbrev cX7_putIntoBasket : ByteArray := prog_9_method_6_code
def yX7_putIntoBasket : MethodName := ⟨RX7, "putIntoBasket", "(I)V"⟩
abbrev cX7_takeOutOfBasket : ByteArray := prog_9_method_7_code
def yX7_takeOutOfBasket : MethodName := ⟨RX7, "takeOutOfBasket", "(I)I"⟩
abbrev cX7_sellFrom : ByteArray := prog_9_method_8_code
def yX7_sellFrom : MethodName := ⟨RX7, "sellFrom", "(III)I"⟩
abbrev cX7_fillOrder : ByteArray := prog_9_method_9_code
def yX7_fillOrder : MethodName := ⟨RX7, "fillOrder", "(LClothEnds$Rule;I)I"⟩
abbrev cX7_bestBale : ByteArray := prog_9_method_10_code
def yX7_bestBale : MethodName := ⟨RX7, "bestBale", "(LClothEnds$Rule;I)I"⟩
abbrev cX7_setWords : ByteArray := prog_9_method_11_code
def yX7_setWords : MethodName := ⟨RX7, "setWords", "(II)V"⟩
abbrev cX7_runDay : ByteArray := prog_9_method_12_code
def yX7_runDay : MethodName := ⟨RX7, "runDay", "(LClothEnds$Rule;II)V"⟩
abbrev cX7_draw : ByteArray := prog_9_method_13_code
def yX7_draw : MethodName := ⟨RX7, "draw", "()I"⟩
def RX8 : String := "ClothEnds$Text"
def TX8 : u_T := fun k => match k with
  | 0 => ("ClothEnds$Text", "bytes", "[I", true)
  | 1 => ("ClothEnds$Text", "length", "I", false)
  | _ => ("ClothEnds$Text", "at", "I", false)
def tyX8 : Nat → FieldType := fun k => match k with
  | 0 => .array .int
  | 1 => .int
  | _ => .int
theorem nmX8 : ∀ a, a < 3 → ∀ b, b < 3 → a ≠ b → (TX8 a).2.1 ≠ (TX8 b).2.1 := by decide +kernel
theorem tyX8_ok : ∀ k, k < 3 → parseFieldDescriptor (TX8 k).2.2.1 = some (tyX8 k) := by decide +kernel
abbrev cX8_init : ByteArray := prog_10_method_1_code
def yX8_init : MethodName := ⟨RX8, "<init>", "()V"⟩
abbrev cX8_append : ByteArray := prog_10_method_2_code
def yX8_append : MethodName := ⟨RX8, "append", "(I)V"⟩
abbrev cX8_fault : ByteArray := prog_10_method_3_code
def yX8_fault : MethodName := ⟨RX8, "fault", "(II)I"⟩
abbrev cX8_byteAt : ByteArray := prog_10_method_4_code
def yX8_byteAt : MethodName := ⟨RX8, "byteAt", "(I)I"⟩
abbrev cX8_peek : ByteArray := prog_10_method_5_code
def yX8_peek : MethodName := ⟨RX8, "peek", "()I"⟩
abbrev cX8_step : ByteArray := prog_10_method_6_code
def yX8_step : MethodName := ⟨RX8, "step", "()V"⟩
abbrev cX8_next : ByteArray := prog_10_method_7_code
def yX8_next : MethodName := ⟨RX8, "next", "()I"⟩
abbrev cX8_readWord : ByteArray := prog_10_method_8_code
def yX8_readWord : MethodName := ⟨RX8, "readWord", "(Ljava/lang/String;)I"⟩
abbrev cX8_readNumber : ByteArray := prog_10_method_9_code
def yX8_readNumber : MethodName := ⟨RX8, "readNumber", "()I"⟩
def RX9 : String := "ClothEnds$Told"
def TX9 : u_T := fun k => match k with
  | 0 => ("ClothEnds$Told", "known", "[I", true)
  | 1 => ("ClothEnds$Told", "knowns", "I", false)
  | 2 => ("ClothEnds$Told", "weights", "[I", true)
  | 3 => ("ClothEnds$Told", "levelPrice", "[I", true)
  | 4 => ("ClothEnds$Told", "levelMost", "[I", true)
  | 5 => ("ClothEnds$Told", "levels", "I", false)
  | 6 => ("ClothEnds$Told", "clerkSold", "[I", true)
  | _ => ("ClothEnds$Told", "entries", "I", false)
def tyX9 : Nat → FieldType := fun k => match k with
  | 0 => .array .int
  | 1 => .int
  | 2 => .array .int
  | 3 => .array .int
  | 4 => .array .int
  | 5 => .int
  | 6 => .array .int
  | _ => .int
theorem nmX9 : ∀ a, a < 8 → ∀ b, b < 8 → a ≠ b → (TX9 a).2.1 ≠ (TX9 b).2.1 := by decide +kernel
theorem tyX9_ok : ∀ k, k < 8 → parseFieldDescriptor (TX9 k).2.2.1 = some (tyX9 k) := by decide +kernel
abbrev cX9_init : ByteArray := prog_11_method_1_code
def yX9_init : MethodName := ⟨RX9, "<init>", "()V"⟩
abbrev cX9_clear : ByteArray := prog_11_method_2_code
def yX9_clear : MethodName := ⟨RX9, "clear", "()V"⟩
abbrev cX9_clearEntries : ByteArray := prog_11_method_3_code
def yX9_clearEntries : MethodName := ⟨RX9, "clearEntries", "()V"⟩
abbrev cX9_copyFrom : ByteArray := prog_11_method_4_code
def yX9_copyFrom : MethodName := ⟨RX9, "copyFrom", "(LClothEnds$Told;)V"⟩
abbrev cX9_knownEighths : ByteArray := prog_11_method_5_code
def yX9_knownEighths : MethodName := ⟨RX9, "knownEighths", "()I"⟩
def RX10 : String := "ClothEnds$WhichPlan"
def TX10 : u_T := fun k => match k with
  | 0 => ("ClothEnds$WhichPlan", "bales", "[I", true)
  | 1 => ("ClothEnds$WhichPlan", "left", "[I", true)
  | 2 => ("ClothEnds$WhichPlan", "thumb", "I", false)
  | 3 => ("ClothEnds$WhichPlan", "weights", "[I", true)
  | 4 => ("ClothEnds$WhichPlan", "last", "[J", true)
  | 5 => ("ClothEnds$WhichPlan", "power", "[J", true)
  | 6 => ("ClothEnds$WhichPlan", "bale", "I", false)
  | 7 => ("ClothEnds$WhichPlan", "above", "J", false)
  | _ => ("ClothEnds$WhichPlan", "below", "J", false)
def tyX10 : Nat → FieldType := fun k => match k with
  | 0 => .array .int
  | 1 => .array .int
  | 2 => .int
  | 3 => .array .int
  | 4 => .array .long
  | 5 => .array .long
  | 6 => .int
  | 7 => .long
  | _ => .long
theorem nmX10 : ∀ a, a < 9 → ∀ b, b < 9 → a ≠ b → (TX10 a).2.1 ≠ (TX10 b).2.1 := by decide +kernel
theorem tyX10_ok : ∀ k, k < 9 → parseFieldDescriptor (TX10 k).2.2.1 = some (tyX10 k) := by decide +kernel
abbrev cX10_init : ByteArray := prog_12_method_1_code
def yX10_init : MethodName := ⟨RX10, "<init>", "()V"⟩
abbrev cX10_takes : ByteArray := prog_12_method_2_code
def yX10_takes : MethodName := ⟨RX10, "takes", "(LClothEnds$Shop;LClothEnds$Told;)Z"⟩
abbrev cX10_takesBales : ByteArray := prog_12_method_3_code
def yX10_takesBales : MethodName := ⟨RX10, "takesBales", "(LClothEnds$Shop;)Z"⟩
abbrev cX10_takesWeights : ByteArray := prog_12_method_4_code
def yX10_takesWeights : MethodName := ⟨RX10, "takesWeights", "(LClothEnds$Told;)Z"⟩
abbrev cX10_work : ByteArray := prog_12_method_5_code
def yX10_work : MethodName := ⟨RX10, "work", "(II)V"⟩
abbrev cX10_rest : ByteArray := prog_12_method_6_code
def yX10_rest : MethodName := ⟨RX10, "rest", "(III)I"⟩
abbrev cX10_behind : ByteArray := prog_12_method_7_code
def yX10_behind : MethodName := ⟨RX10, "behind", "(II)I"⟩
abbrev cX10_mean : ByteArray := prog_12_method_8_code
def yX10_mean : MethodName := ⟨RX10, "mean", "(LClothEnds$WhichPlan;IIII)J"⟩
abbrev cX10_shortenFraction : ByteArray := prog_12_method_9_code
def yX10_shortenFraction : MethodName := ⟨RX10, "shortenFraction", "()V"⟩
def RX11 : String := "ClothEnds"
def TX11 : u_T := fun k => match k with
  | 0 => ("ClothEnds", "tape", "LClothEnds$Text;", true)
  | 1 => ("ClothEnds", "stand", "LClothEnds$Stand;", true)
  | 2 => ("ClothEnds", "trial", "LClothEnds$Stand;", true)
  | 3 => ("ClothEnds", "images", "[LClothEnds$Stand;", true)
  | 4 => ("ClothEnds", "imaged", "[Z", true)
  | 5 => ("ClothEnds", "rules", "[LClothEnds$Rule;", true)
  | 6 => ("ClothEnds", "ruleCount", "I", false)
  | 7 => ("ClothEnds", "refusals", "[I", true)
  | 8 => ("ClothEnds", "shopReader", "LClothEnds$ShopReader;", true)
  | 9 => ("ClothEnds", "ruleReader", "LClothEnds$RuleReader;", true)
  | 10 => ("ClothEnds", "forms", "LClothEnds$Forms;", true)
  | 11 => ("ClothEnds", "knownPlan", "LClothEnds$KnownPlan;", true)
  | 12 => ("ClothEnds", "whichPlan", "LClothEnds$WhichPlan;", true)
  | _ => ("ClothEnds", "salePlan", "LClothEnds$SalePlan;", true)
def tyX11 : Nat → FieldType := fun k => match k with
  | 0 => .object "ClothEnds$Text"
  | 1 => .object "ClothEnds$Stand"
  | 2 => .object "ClothEnds$Stand"
  | 3 => .array (.object "ClothEnds$Stand")
  | 4 => .array .boolean
  | 5 => .array (.object "ClothEnds$Rule")
  | 6 => .int
  | 7 => .array .int
  | 8 => .object "ClothEnds$ShopReader"
  | 9 => .object "ClothEnds$RuleReader"
  | 10 => .object "ClothEnds$Forms"
  | 11 => .object "ClothEnds$KnownPlan"
  | 12 => .object "ClothEnds$WhichPlan"
  | _ => .object "ClothEnds$SalePlan"
theorem nmX11 : ∀ a, a < 14 → ∀ b, b < 14 → a ≠ b → (TX11 a).2.1 ≠ (TX11 b).2.1 := by decide +kernel
theorem tyX11_ok : ∀ k, k < 14 → parseFieldDescriptor (TX11 k).2.2.1 = some (tyX11 k) := by decide +kernel
abbrev cX11_init : ByteArray := prog_1_method_1_code
def yX11_init : MethodName := ⟨RX11, "<init>", "()V"⟩
abbrev cX11_feed : ByteArray := prog_1_method_2_code
def yX11_feed : MethodName := ⟨RX11, "feed", "(IIIII)I"⟩
abbrev cX11_end : ByteArray := prog_1_method_3_code
def yX11_end : MethodName := ⟨RX11, "end", "(I)I"⟩
abbrev cX11_shop : ByteArray := prog_1_method_4_code
def yX11_shop : MethodName := ⟨RX11, "shop", "()I"⟩
abbrev cX11_rule : ByteArray := prog_1_method_5_code
def yX11_rule : MethodName := ⟨RX11, "rule", "()I"⟩
abbrev cX11_bale : ByteArray := prog_1_method_6_code
def yX11_bale : MethodName := ⟨RX11, "bale", "(II)I"⟩
abbrev cX11_cut : ByteArray := prog_1_method_7_code
def yX11_cut : MethodName := ⟨RX11, "cut", "(II)I"⟩
abbrev cX11_tear : ByteArray := prog_1_method_8_code
def yX11_tear : MethodName := ⟨RX11, "tear", "(II)I"⟩
abbrev cX11_basket : ByteArray := prog_1_method_9_code
def yX11_basket : MethodName := ⟨RX11, "basket", "(I)I"⟩
abbrev cX11_ends : ByteArray := prog_1_method_10_code
def yX11_ends : MethodName := ⟨RX11, "ends", "(II)I"⟩
abbrev cX11_out : ByteArray := prog_1_method_11_code
def yX11_out : MethodName := ⟨RX11, "out", "(I)I"⟩
abbrev cX11_serve : ByteArray := prog_1_method_12_code
def yX11_serve : MethodName := ⟨RX11, "serve", "(II)I"⟩
abbrev cX11_day : ByteArray := prog_1_method_13_code
def yX11_day : MethodName := ⟨RX11, "day", "(III)I"⟩
abbrev cX11_days : ByteArray := prog_1_method_14_code
def yX11_days : MethodName := ⟨RX11, "days", "(IIIII)I"⟩
abbrev cX11_known : ByteArray := prog_1_method_15_code
def yX11_known : MethodName := ⟨RX11, "known", "(I)I"⟩
abbrev cX11_all : ByteArray := prog_1_method_16_code
def yX11_all : MethodName := ⟨RX11, "all", "(I)I"⟩
abbrev cX11_weight : ByteArray := prog_1_method_17_code
def yX11_weight : MethodName := ⟨RX11, "weight", "(II)I"⟩
abbrev cX11_which : ByteArray := prog_1_method_18_code
def yX11_which : MethodName := ⟨RX11, "which", "(III)J"⟩
abbrev cX11_drops : ByteArray := prog_1_method_19_code
def yX11_drops : MethodName := ⟨RX11, "drops", "(II)I"⟩
abbrev cX11_lots : ByteArray := prog_1_method_20_code
def yX11_lots : MethodName := ⟨RX11, "lots", "(II)I"⟩
abbrev cX11_meet : ByteArray := prog_1_method_21_code
def yX11_meet : MethodName := ⟨RX11, "meet", "(IIII)I"⟩
abbrev cX11_seam : ByteArray := prog_1_method_22_code
def yX11_seam : MethodName := ⟨RX11, "seam", "(III)I"⟩
abbrev cX11_made : ByteArray := prog_1_method_23_code
def yX11_made : MethodName := ⟨RX11, "made", "()I"⟩
abbrev cX11_madeOf : ByteArray := prog_1_method_24_code
def yX11_madeOf : MethodName := ⟨RX11, "madeOf", "(III)I"⟩
abbrev cX11_line : ByteArray := prog_1_method_25_code
def yX11_line : MethodName := ⟨RX11, "line", "(III)I"⟩
abbrev cX11_level : ByteArray := prog_1_method_26_code
def yX11_level : MethodName := ⟨RX11, "level", "(II)I"⟩
abbrev cX11_sale : ByteArray := prog_1_method_27_code
def yX11_sale : MethodName := ⟨RX11, "sale", "(IIII)I"⟩
abbrev cX11_roll : ByteArray := prog_1_method_28_code
def yX11_roll : MethodName := ⟨RX11, "roll", "(IIII)I"⟩
abbrev cX11_entry : ByteArray := prog_1_method_29_code
def yX11_entry : MethodName := ⟨RX11, "entry", "(II)I"⟩
abbrev cX11_rod : ByteArray := prog_1_method_30_code
def yX11_rod : MethodName := ⟨RX11, "rod", "(II)I"⟩
abbrev cX11_seed : ByteArray := prog_1_method_31_code
def yX11_seed : MethodName := ⟨RX11, "seed", "(I)I"⟩
abbrev cX11_status : ByteArray := prog_1_method_32_code
def yX11_status : MethodName := ⟨RX11, "status", "(I)I"⟩
abbrev cX11_count : ByteArray := prog_1_method_33_code
def yX11_count : MethodName := ⟨RX11, "count", "(I)I"⟩
abbrev cX11_image : ByteArray := prog_1_method_34_code
def yX11_image : MethodName := ⟨RX11, "image", "(I)I"⟩
abbrev cX11_back : ByteArray := prog_1_method_35_code
def yX11_back : MethodName := ⟨RX11, "back", "(I)I"⟩
abbrev cX11_within : ByteArray := prog_1_method_36_code
def yX11_within : MethodName := ⟨RX11, "within", "(III)Z"⟩
abbrev cX11_isDay : ByteArray := prog_1_method_37_code
def yX11_isDay : MethodName := ⟨RX11, "isDay", "(II)Z"⟩
abbrev cX11_areDrops : ByteArray := prog_1_method_38_code
def yX11_areDrops : MethodName := ⟨RX11, "areDrops", "(II)Z"⟩
abbrev cX11_hasRule : ByteArray := prog_1_method_39_code
def yX11_hasRule : MethodName := ⟨RX11, "hasRule", "(I)Z"⟩
abbrev cX11_refuse : ByteArray := prog_1_method_40_code
def yX11_refuse : MethodName := ⟨RX11, "refuse", "(I)I"⟩
abbrev cX11_carryOff : ByteArray := prog_1_method_41_code
def yX11_carryOff : MethodName := ⟨RX11, "carryOff", "(III)I"⟩
def RX12 : String := "ClothEndsModel"
def TX12 : u_T := fun k => match k with
  | 0 => ("ClothEndsModel", "thrown", "I", false)
  | 1 => ("ClothEndsModel", "status", "[I", true)
  | 2 => ("ClothEndsModel", "scalar", "[I", true)
  | 3 => ("ClothEndsModel", "left", "[I", true)
  | 4 => ("ClothEndsModel", "width", "[I", true)
  | 5 => ("ClothEndsModel", "lot", "[I", true)
  | 6 => ("ClothEndsModel", "stripe", "[I", true)
  | 7 => ("ClothEndsModel", "flawOf", "[I", true)
  | 8 => ("ClothEndsModel", "flawAt", "[I", true)
  | 9 => ("ClothEndsModel", "formLong", "[I", true)
  | 10 => ("ClothEndsModel", "formWide", "[I", true)
  | 11 => ("ClothEndsModel", "formWorth", "[I", true)
  | 12 => ("ClothEndsModel", "newScalar", "[I", true)
  | 13 => ("ClothEndsModel", "newLeft", "[I", true)
  | 14 => ("ClothEndsModel", "newWidth", "[I", true)
  | 15 => ("ClothEndsModel", "newLot", "[I", true)
  | 16 => ("ClothEndsModel", "newStripe", "[I", true)
  | 17 => ("ClothEndsModel", "newFlawOf", "[I", true)
  | 18 => ("ClothEndsModel", "newFlawAt", "[I", true)
  | 19 => ("ClothEndsModel", "newFormLong", "[I", true)
  | 20 => ("ClothEndsModel", "newFormWide", "[I", true)
  | 21 => ("ClothEndsModel", "newFormWorth", "[I", true)
  | 22 => ("ClothEndsModel", "endLong", "[I", true)
  | 23 => ("ClothEndsModel", "endWide", "[I", true)
  | 24 => ("ClothEndsModel", "endLot", "[I", true)
  | 25 => ("ClothEndsModel", "endFlaws", "[I", true)
  | 26 => ("ClothEndsModel", "knownOrder", "[I", true)
  | 27 => ("ClothEndsModel", "weights", "[I", true)
  | 28 => ("ClothEndsModel", "levelPrice", "[I", true)
  | 29 => ("ClothEndsModel", "levelMost", "[I", true)
  | 30 => ("ClothEndsModel", "bookClerk", "[I", true)
  | 31 => ("ClothEndsModel", "bookSold", "[I", true)
  | 32 => ("ClothEndsModel", "taped", "I", false)
  | 33 => ("ClothEndsModel", "p", "I", false)
  | 34 => ("ClothEndsModel", "fault", "I", false)
  | 35 => ("ClothEndsModel", "slot", "I", false)
  | 36 => ("ClothEndsModel", "rules", "I", false)
  | 37 => ("ClothEndsModel", "entries", "I", false)
  | 38 => ("ClothEndsModel", "deep", "I", false)
  | 39 => ("ClothEndsModel", "counted", "I", false)
  | 40 => ("ClothEndsModel", "opened", "I", false)
  | 41 => ("ClothEndsModel", "words", "I", false)
  | 42 => ("ClothEndsModel", "onceTold", "I", false)
  | 43 => ("ClothEndsModel", "tape", "[B", true)
  | 44 => ("ClothEndsModel", "sort", "[I", true)
  | 45 => ("ClothEndsModel", "number", "[I", true)
  | 46 => ("ClothEndsModel", "clauses", "[I", true)
  | 47 => ("ClothEndsModel", "ofGift", "[I", true)
  | 48 => ("ClothEndsModel", "sumAt", "[I", true)
  | 49 => ("ClothEndsModel", "testAt", "[I", true)
  | 50 => ("ClothEndsModel", "endAt", "[I", true)
  | 51 => ("ClothEndsModel", "open", "[I", true)
  | 52 => ("ClothEndsModel", "asked", "[J", true)
  | 53 => ("ClothEndsModel", "stack", "[J", true)
  | 54 => ("ClothEndsModel", "keptScalar", "[I", true)
  | 55 => ("ClothEndsModel", "keptLeft", "[I", true)
  | 56 => ("ClothEndsModel", "keptFlaw", "[I", true)
  | 57 => ("ClothEndsModel", "wasted", "[I", true)
  | 58 => ("ClothEndsModel", "costs", "[I", true)
  | 59 => ("ClothEndsModel", "mean", "[J", true)
  | 60 => ("ClothEndsModel", "fewBales", "[I", true)
  | 61 => ("ClothEndsModel", "fewLeft", "[I", true)
  | 62 => ("ClothEndsModel", "fewMany", "I", false)
  | 63 => ("ClothEndsModel", "worths", "[I", true)
  | 64 => ("ClothEndsModel", "alone", "[I", true)
  | 65 => ("ClothEndsModel", "madeBy", "[I", true)
  | 66 => ("ClothEndsModel", "coins", "[I", true)
  | 67 => ("ClothEndsModel", "images", "[I", true)
  | 68 => ("ClothEndsModel", "isMade", "[Z", true)
  | 69 => ("ClothEndsModel", "imageAt", "I", false)
  | _ => ("ClothEndsModel", "goesBack", "Z", false)
def tyX12 : Nat → FieldType := fun k => match k with
  | 0 => .int
  | 1 => .array .int
  | 2 => .array .int
  | 3 => .array .int
  | 4 => .array .int
  | 5 => .array .int
  | 6 => .array .int
  | 7 => .array .int
  | 8 => .array .int
  | 9 => .array .int
  | 10 => .array .int
  | 11 => .array .int
  | 12 => .array .int
  | 13 => .array .int
  | 14 => .array .int
  | 15 => .array .int
  | 16 => .array .int
  | 17 => .array .int
  | 18 => .array .int
  | 19 => .array .int
  | 20 => .array .int
  | 21 => .array .int
  | 22 => .array .int
  | 23 => .array .int
  | 24 => .array .int
  | 25 => .array .int
  | 26 => .array .int
  | 27 => .array .int
  | 28 => .array .int
  | 29 => .array .int
  | 30 => .array .int
  | 31 => .array .int
  | 32 => .int
  | 33 => .int
  | 34 => .int
  | 35 => .int
  | 36 => .int
  | 37 => .int
  | 38 => .int
  | 39 => .int
  | 40 => .int
  | 41 => .int
  | 42 => .int
  | 43 => .array .byte
  | 44 => .array .int
  | 45 => .array .int
  | 46 => .array .int
  | 47 => .array .int
  | 48 => .array .int
  | 49 => .array .int
  | 50 => .array .int
  | 51 => .array .int
  | 52 => .array .long
  | 53 => .array .long
  | 54 => .array .int
  | 55 => .array .int
  | 56 => .array .int
  | 57 => .array .int
  | 58 => .array .int
  | 59 => .array .long
  | 60 => .array .int
  | 61 => .array .int
  | 62 => .int
  | 63 => .array .int
  | 64 => .array .int
  | 65 => .array .int
  | 66 => .array .int
  | 67 => .array .int
  | 68 => .array .boolean
  | 69 => .int
  | _ => .boolean
theorem nmX12 : ∀ a, a < 71 → ∀ b, b < 71 → a ≠ b → (TX12 a).2.1 ≠ (TX12 b).2.1 := by decide +kernel
theorem tyX12_ok : ∀ k, k < 71 → parseFieldDescriptor (TX12 k).2.2.1 = some (tyX12 k) := by decide +kernel
abbrev cX12_init : ByteArray := prog_14_method_1_code
def yX12_init : MethodName := ⟨RX12, "<init>", "()V"⟩
abbrev cX12_in : ByteArray := prog_14_method_3_code
def yX12_in : MethodName := ⟨RX12, "in", "(JJJ)Z"⟩
abbrev cX12_has : ByteArray := prog_14_method_4_code
def yX12_has : MethodName := ⟨RX12, "has", "(II)Z"⟩
abbrev cX12_divisor : ByteArray := prog_14_method_5_code
def yX12_divisor : MethodName := ⟨RX12, "divisor", "(JJ)J"⟩
abbrev cX12_refuses : ByteArray := prog_14_method_6_code
def yX12_refuses : MethodName := ⟨RX12, "refuses", "(I)I"⟩
abbrev cX12_isBale : ByteArray := prog_14_method_7_code
def yX12_isBale : MethodName := ⟨RX12, "isBale", "(I)Z"⟩
abbrev cX12_flawsIn : ByteArray := prog_14_method_8_code
def yX12_flawsIn : MethodName := ⟨RX12, "flawsIn", "(II)I"⟩
abbrev cX12_leftInAll : ByteArray := prog_14_method_9_code
def yX12_leftInAll : MethodName := ⟨RX12, "leftInAll", "()I"⟩
abbrev cX12_feed : ByteArray := prog_14_method_10_code
def yX12_feed : MethodName := ⟨RX12, "feed", "(IIIII)I"⟩
abbrev cX12_put : ByteArray := prog_14_method_11_code
def yX12_put : MethodName := ⟨RX12, "put", "(I)V"⟩
abbrev cX12_end : ByteArray := prog_14_method_12_code
def yX12_end : MethodName := ⟨RX12, "end", "(I)I"⟩
abbrev cX12_wordOf : ByteArray := prog_14_method_13_code
def yX12_wordOf : MethodName := ⟨RX12, "wordOf", "(I)Ljava/lang/String;"⟩
abbrev cX12_shopWord : ByteArray := prog_14_method_14_code
def yX12_shopWord : MethodName := ⟨RX12, "shopWord", "(I)Ljava/lang/String;"⟩
abbrev cX12_fails : ByteArray := prog_14_method_15_code
def yX12_fails : MethodName := ⟨RX12, "fails", "(II)V"⟩
abbrev cX12_sign : ByteArray := prog_14_method_16_code
def yX12_sign : MethodName := ⟨RX12, "sign", "()I"⟩
abbrev cX12_blanks : ByteArray := prog_14_method_17_code
def yX12_blanks : MethodName := ⟨RX12, "blanks", "()V"⟩
abbrev cX12_isDigit : ByteArray := prog_14_method_18_code
def yX12_isDigit : MethodName := ⟨RX12, "isDigit", "()Z"⟩
abbrev cX12_stood : ByteArray := prog_14_method_19_code
def yX12_stood : MethodName := ⟨RX12, "stood", "(Ljava/lang/String;)Z"⟩
abbrev cX12_takes : ByteArray := prog_14_method_20_code
def yX12_takes : MethodName := ⟨RX12, "takes", "(Ljava/lang/String;)Z"⟩
abbrev cX12_entered : ByteArray := prog_14_method_21_code
def yX12_entered : MethodName := ⟨RX12, "entered", "(II)V"⟩
abbrev cX12_isCounted : ByteArray := prog_14_method_22_code
def yX12_isCounted : MethodName := ⟨RX12, "isCounted", "(I)V"⟩
abbrev cX12_digits : ByteArray := prog_14_method_23_code
def yX12_digits : MethodName := ⟨RX12, "digits", "(I)I"⟩
abbrev cX12_value : ByteArray := prog_14_method_24_code
def yX12_value : MethodName := ⟨RX12, "value", "()V"⟩
abbrev cX12_term : ByteArray := prog_14_method_25_code
def yX12_term : MethodName := ⟨RX12, "term", "()V"⟩
abbrev cX12_sum : ByteArray := prog_14_method_26_code
def yX12_sum : MethodName := ⟨RX12, "sum", "()V"⟩
abbrev cX12_compared : ByteArray := prog_14_method_27_code
def yX12_compared : MethodName := ⟨RX12, "compared", "()V"⟩
abbrev cX12_top : ByteArray := prog_14_method_28_code
def yX12_top : MethodName := ⟨RX12, "top", "()I"⟩
abbrev cX12_opens : ByteArray := prog_14_method_29_code
def yX12_opens : MethodName := ⟨RX12, "opens", "(I)V"⟩
abbrev cX12_answers : ByteArray := prog_14_method_30_code
def yX12_answers : MethodName := ⟨RX12, "answers", "(I)V"⟩
abbrev cX12_fact : ByteArray := prog_14_method_31_code
def yX12_fact : MethodName := ⟨RX12, "fact", "()Z"⟩
abbrev cX12_test : ByteArray := prog_14_method_32_code
def yX12_test : MethodName := ⟨RX12, "test", "()V"⟩
abbrev cX12_amount : ByteArray := prog_14_method_33_code
def yX12_amount : MethodName := ⟨RX12, "amount", "(II)I"⟩
abbrev cX12_shopPart : ByteArray := prog_14_method_34_code
def yX12_shopPart : MethodName := ⟨RX12, "shopPart", "(I)V"⟩
abbrev cX12_isFull : ByteArray := prog_14_method_35_code
def yX12_isFull : MethodName := ⟨RX12, "isFull", "(II)Z"⟩
abbrev cX12_shopClause : ByteArray := prog_14_method_36_code
def yX12_shopClause : MethodName := ⟨RX12, "shopClause", "(I)V"⟩
abbrev cX12_lay : ByteArray := prog_14_method_37_code
def yX12_lay : MethodName := ⟨RX12, "lay", "([I[I)V"⟩
abbrev cX12_goesOn : ByteArray := prog_14_method_38_code
def yX12_goesOn : MethodName := ⟨RX12, "goesOn", "()Z"⟩
abbrev cX12_starts : ByteArray := prog_14_method_39_code
def yX12_starts : MethodName := ⟨RX12, "starts", "()V"⟩
abbrev cX12_shop : ByteArray := prog_14_method_40_code
def yX12_shop : MethodName := ⟨RX12, "shop", "()I"⟩
abbrev cX12_ruleClause : ByteArray := prog_14_method_41_code
def yX12_ruleClause : MethodName := ⟨RX12, "ruleClause", "(I)V"⟩
abbrev cX12_rule : ByteArray := prog_14_method_42_code
def yX12_rule : MethodName := ⟨RX12, "rule", "()I"⟩
abbrev cX12_isRule : ByteArray := prog_14_method_43_code
def yX12_isRule : MethodName := ⟨RX12, "isRule", "(I)Z"⟩
abbrev cX12_truth : ByteArray := prog_14_method_44_code
def yX12_truth : MethodName := ⟨RX12, "truth", "(Z)J"⟩
abbrev cX12_both : ByteArray := prog_14_method_45_code
def yX12_both : MethodName := ⟨RX12, "both", "(IJJ)J"⟩
abbrev cX12_answer : ByteArray := prog_14_method_46_code
def yX12_answer : MethodName := ⟨RX12, "answer", "(III)J"⟩
abbrev cX12_bale : ByteArray := prog_14_method_47_code
def yX12_bale : MethodName := ⟨RX12, "bale", "(II)I"⟩
abbrev cX12_nearest : ByteArray := prog_14_method_48_code
def yX12_nearest : MethodName := ⟨RX12, "nearest", "(I)I"⟩
abbrev cX12_isEnd : ByteArray := prog_14_method_49_code
def yX12_isEnd : MethodName := ⟨RX12, "isEnd", "(I)Z"⟩
abbrev cX12_taken : ByteArray := prog_14_method_50_code
def yX12_taken : MethodName := ⟨RX12, "taken", "(III)I"⟩
abbrev cX12_takes0 : ByteArray := prog_14_method_51_code
def yX12_takes0 : MethodName := ⟨RX12, "takes0", "(II)V"⟩
abbrev cX12_cuts : ByteArray := prog_14_method_52_code
def yX12_cuts : MethodName := ⟨RX12, "cuts", "(III)V"⟩
abbrev cX12_cutsBy : ByteArray := prog_14_method_53_code
def yX12_cutsBy : MethodName := ⟨RX12, "cutsBy", "(III)I"⟩
abbrev cX12_cut : ByteArray := prog_14_method_54_code
def yX12_cut : MethodName := ⟨RX12, "cut", "(II)I"⟩
abbrev cX12_tear : ByteArray := prog_14_method_55_code
def yX12_tear : MethodName := ⟨RX12, "tear", "(II)I"⟩
abbrev cX12_basket : ByteArray := prog_14_method_56_code
def yX12_basket : MethodName := ⟨RX12, "basket", "(I)I"⟩
abbrev cX12_isInBasket : ByteArray := prog_14_method_57_code
def yX12_isInBasket : MethodName := ⟨RX12, "isInBasket", "(I)Z"⟩
abbrev cX12_ends : ByteArray := prog_14_method_58_code
def yX12_ends : MethodName := ⟨RX12, "ends", "(II)I"⟩
abbrev cX12_out : ByteArray := prog_14_method_59_code
def yX12_out : MethodName := ⟨RX12, "out", "(I)I"⟩
abbrev cX12_asks : ByteArray := prog_14_method_60_code
def yX12_asks : MethodName := ⟨RX12, "asks", "(II)V"⟩
abbrev cX12_holds : ByteArray := prog_14_method_61_code
def yX12_holds : MethodName := ⟨RX12, "holds", "(II)Z"⟩
abbrev cX12_clauseOf : ByteArray := prog_14_method_62_code
def yX12_clauseOf : MethodName := ⟨RX12, "clauseOf", "(I)I"⟩
abbrev cX12_isGiven : ByteArray := prog_14_method_63_code
def yX12_isGiven : MethodName := ⟨RX12, "isGiven", "(I)Z"⟩
abbrev cX12_serves : ByteArray := prog_14_method_64_code
def yX12_serves : MethodName := ⟨RX12, "serves", "(II)I"⟩
abbrev cX12_serve : ByteArray := prog_14_method_65_code
def yX12_serve : MethodName := ⟨RX12, "serve", "(II)I"⟩
abbrev cX12_draws : ByteArray := prog_14_method_66_code
def yX12_draws : MethodName := ⟨RX12, "draws", "(I)I"⟩
abbrev cX12_goesDay : ByteArray := prog_14_method_67_code
def yX12_goesDay : MethodName := ⟨RX12, "goesDay", "(III)I"⟩
abbrev cX12_isDay : ByteArray := prog_14_method_68_code
def yX12_isDay : MethodName := ⟨RX12, "isDay", "(III)Z"⟩
abbrev cX12_day : ByteArray := prog_14_method_69_code
def yX12_day : MethodName := ⟨RX12, "day", "(III)I"⟩
abbrev cX12_days : ByteArray := prog_14_method_70_code
def yX12_days : MethodName := ⟨RX12, "days", "(IIIII)I"⟩
abbrev cX12_known : ByteArray := prog_14_method_71_code
def yX12_known : MethodName := ⟨RX12, "known", "(I)I"⟩
abbrev cX12_sumOf : ByteArray := prog_14_method_72_code
def yX12_sumOf : MethodName := ⟨RX12, "sumOf", "(I)I"⟩
abbrev cX12_wastedBy : ByteArray := prog_14_method_73_code
def yX12_wastedBy : MethodName := ⟨RX12, "wastedBy", "(II)I"⟩
abbrev cX12_all : ByteArray := prog_14_method_74_code
def yX12_all : MethodName := ⟨RX12, "all", "(I)I"⟩
abbrev cX12_weight : ByteArray := prog_14_method_75_code
def yX12_weight : MethodName := ⟨RX12, "weight", "(II)I"⟩
abbrev cX12_findsFew : ByteArray := prog_14_method_76_code
def yX12_findsFew : MethodName := ⟨RX12, "findsFew", "()Z"⟩
abbrev cX12_placeOf : ByteArray := prog_14_method_77_code
def yX12_placeOf : MethodName := ⟨RX12, "placeOf", "(I)I"⟩
abbrev cX12_leftIn : ByteArray := prog_14_method_78_code
def yX12_leftIn : MethodName := ⟨RX12, "leftIn", "(II)I"⟩
abbrev cX12_stateBehind : ByteArray := prog_14_method_79_code
def yX12_stateBehind : MethodName := ⟨RX12, "stateBehind", "(III)I"⟩
abbrev cX12_mostFor : ByteArray := prog_14_method_80_code
def yX12_mostFor : MethodName := ⟨RX12, "mostFor", "(IIJI)J"⟩
abbrev cX12_allWeights : ByteArray := prog_14_method_81_code
def yX12_allWeights : MethodName := ⟨RX12, "allWeights", "()I"⟩
abbrev cX12_fillsMeans : ByteArray := prog_14_method_82_code
def yX12_fillsMeans : MethodName := ⟨RX12, "fillsMeans", "(I)I"⟩
abbrev cX12_which : ByteArray := prog_14_method_83_code
def yX12_which : MethodName := ⟨RX12, "which", "(III)J"⟩
abbrev cX12_dropsOf : ByteArray := prog_14_method_84_code
def yX12_dropsOf : MethodName := ⟨RX12, "dropsOf", "(II)I"⟩
abbrev cX12_drops : ByteArray := prog_14_method_85_code
def yX12_drops : MethodName := ⟨RX12, "drops", "(II)I"⟩
abbrev cX12_lots : ByteArray := prog_14_method_86_code
def yX12_lots : MethodName := ⟨RX12, "lots", "(II)I"⟩
abbrev cX12_meet : ByteArray := prog_14_method_87_code
def yX12_meet : MethodName := ⟨RX12, "meet", "(IIII)I"⟩
abbrev cX12_isSeam : ByteArray := prog_14_method_88_code
def yX12_isSeam : MethodName := ⟨RX12, "isSeam", "(IIII)Z"⟩
abbrev cX12_seam : ByteArray := prog_14_method_89_code
def yX12_seam : MethodName := ⟨RX12, "seam", "(III)I"⟩
abbrev cX12_fillsWorths : ByteArray := prog_14_method_90_code
def yX12_fillsWorths : MethodName := ⟨RX12, "fillsWorths", "(I)V"⟩
abbrev cX12_madeOf : ByteArray := prog_14_method_91_code
def yX12_madeOf : MethodName := ⟨RX12, "madeOf", "(III)I"⟩
abbrev cX12_pairOf : ByteArray := prog_14_method_92_code
def yX12_pairOf : MethodName := ⟨RX12, "pairOf", "(II)I"⟩
abbrev cX12_made : ByteArray := prog_14_method_93_code
def yX12_made : MethodName := ⟨RX12, "made", "()I"⟩
abbrev cX12_line : ByteArray := prog_14_method_94_code
def yX12_line : MethodName := ⟨RX12, "line", "(III)I"⟩
abbrev cX12_level : ByteArray := prog_14_method_95_code
def yX12_level : MethodName := ⟨RX12, "level", "(II)I"⟩
abbrev cX12_coinsBy : ByteArray := prog_14_method_96_code
def yX12_coinsBy : MethodName := ⟨RX12, "coinsBy", "(IIII)I"⟩
abbrev cX12_sale : ByteArray := prog_14_method_97_code
def yX12_sale : MethodName := ⟨RX12, "sale", "(IIII)I"⟩
abbrev cX12_roll : ByteArray := prog_14_method_98_code
def yX12_roll : MethodName := ⟨RX12, "roll", "(IIII)I"⟩
abbrev cX12_entry : ByteArray := prog_14_method_99_code
def yX12_entry : MethodName := ⟨RX12, "entry", "(II)I"⟩
abbrev cX12_soldBy : ByteArray := prog_14_method_100_code
def yX12_soldBy : MethodName := ⟨RX12, "soldBy", "(I)I"⟩
abbrev cX12_rod : ByteArray := prog_14_method_101_code
def yX12_rod : MethodName := ⟨RX12, "rod", "(II)I"⟩
abbrev cX12_seed : ByteArray := prog_14_method_102_code
def yX12_seed : MethodName := ⟨RX12, "seed", "(I)I"⟩
abbrev cX12_status : ByteArray := prog_14_method_103_code
def yX12_status : MethodName := ⟨RX12, "status", "(I)I"⟩
abbrev cX12_count : ByteArray := prog_14_method_104_code
def yX12_count : MethodName := ⟨RX12, "count", "(I)I"⟩
abbrev cX12_carry : ByteArray := prog_14_method_105_code
def yX12_carry : MethodName := ⟨RX12, "carry", "([I)V"⟩
abbrev cX12_carriesAll : ByteArray := prog_14_method_106_code
def yX12_carriesAll : MethodName := ⟨RX12, "carriesAll", "(IZ)V"⟩
abbrev cX12_image : ByteArray := prog_14_method_107_code
def yX12_image : MethodName := ⟨RX12, "image", "(I)I"⟩
abbrev cX12_back : ByteArray := prog_14_method_108_code
def yX12_back : MethodName := ⟨RX12, "back", "(I)I"⟩
def RJ6 : String := "java/lang/Integer"
abbrev cJ6_bitCount_0f7a4 : ByteArray := prog_15_method_49_code
def yJ6_bitCount_0f7a4 : MethodName := ⟨RJ6, "bitCount", "(I)I"⟩
def RJ9 : String := "java/lang/Math"
abbrev cJ9_max_7cf53 : ByteArray := prog_16_method_65_code
def yJ9_max_7cf53 : MethodName := ⟨RJ9, "max", "(II)I"⟩
abbrev cJ9_max_f86c9 : ByteArray := prog_16_method_66_code
def yJ9_max_f86c9 : MethodName := ⟨RJ9, "max", "(JJ)J"⟩
abbrev cJ9_min_7cf53 : ByteArray := prog_16_method_69_code
def yJ9_min_7cf53 : MethodName := ⟨RJ9, "min", "(II)I"⟩
def RJ0 : String := "java/lang/String"
abbrev cJ0_length_8abf5 : ByteArray := prog_17_method_54_code
def yJ0_length_8abf5 : MethodName := ⟨RJ0, "length", "()I"⟩
abbrev cJ0_charAt_5068e : ByteArray := prog_17_method_56_code
def yJ0_charAt_5068e : MethodName := ⟨RJ0, "charAt", "(I)C"⟩
abbrev cJ0_coder_7d493 : ByteArray := prog_17_method_152_code
def yJ0_coder_7d493 : MethodName := ⟨RJ0, "coder", "()B"⟩
abbrev cJ0_isLatin1_aae02 : ByteArray := prog_17_method_154_code
def yJ0_isLatin1_aae02 : MethodName := ⟨RJ0, "isLatin1", "()Z"⟩
abbrev cJ0_checkIndex_df160 : ByteArray := prog_17_method_155_code
def yJ0_checkIndex_df160 : MethodName := ⟨RJ0, "checkIndex", "(II)V"⟩
def RJ1 : String := "java/lang/StringLatin1"
abbrev cJ1_charAt_3b067 : ByteArray := prog_18_method_2_code
def yJ1_charAt_3b067 : MethodName := ⟨RJ1, "charAt", "([BI)C"⟩
def RJ2 : String := "java/lang/StringUTF16"
abbrev cJ2_getChar_3b067 : ByteArray := prog_19_method_5_code
def yJ2_getChar_3b067 : MethodName := ⟨RJ2, "getChar", "([BI)C"⟩
abbrev cJ2_length_9d52b : ByteArray := prog_19_method_6_code
def yJ2_length_9d52b : MethodName := ⟨RJ2, "length", "([B)I"⟩
abbrev cJ2_charAt_3b067 : ByteArray := prog_19_method_83_code
def yJ2_charAt_3b067 : MethodName := ⟨RJ2, "charAt", "([BI)C"⟩
abbrev cJ2_checkIndex_2214a : ByteArray := prog_19_method_91_code
def yJ2_checkIndex_2214a : MethodName := ⟨RJ2, "checkIndex", "(I[B)V"⟩
def RJ3 : String := "jdk/internal/util/Preconditions"
abbrev cJ3_checkIndex_8e157 : ByteArray := prog_20_method_11_code
def yJ3_checkIndex_8e157 : MethodName := ⟨RJ3, "checkIndex", "(IILjava/util/function/BiFunction;)I"⟩
def RL : String := "ClothEndsLaw"
abbrev cL_law : ByteArray := code
def yL_law : MethodName := ⟨RL, "law", "([I)Z"⟩
abbrev vwCl : List vw_C := [(RX0, TX0, 3), (RX1, TX1, 5), (RX2, TX2, 8), (RX3, TX3, 7), (RX4, TX4, 4), (RX5, TX5, 17), (RX6, TX6, 3), (RX7, TX7, 14), (RX8, TX8, 3), (RX9, TX9, 8), (RX10, TX10, 9), (RX11, TX11, 14), (RX12, TX12, 71)]
/-! ===== tables: what lies where ===== -/
def clsL : List Nat := [11, 8, 7, 5, 9, 7, 5, 9, 7, 5, 9, 7, 5, 9, 7, 5, 9, 7, 5, 9, 6, 5, 3, 2, 0, 1, 10, 4, 2, 2, 2, 2, 2, 2, 12]
def cls (o : Nat) : Nat := clsL.getD o 99
def ftL : List (List (Nat × Nat)) := [[(3, 81), (3, 10), (5, 10)],
  [(3, 512), (3, 512), (0, 0), (0, 0), (0, 0)],
  [(3, 400), (0, 0), (5, 12), (3, 12), (3, 12), (3, 12), (0, 0), (4, 40)],
  [(9, 0), (0, 0), (0, 0), (3, 40), (0, 0), (0, 0), (0, 0)],
  [(3, 2405), (0, 0), (0, 0), (0, 0)],
  [(3, 12), (3, 12), (3, 12), (3, 12), (0, 0), (3, 16), (3, 16), (0, 0), (0, 0), (0, 0), (0, 0), (3, 8), (3, 8), (3, 8), (0, 0), (0, 0), (0, 0)],
  [(9, 0), (3, 4), (3, 7)],
  [(9, 0), (9, 0), (3, 10), (3, 10), (3, 10), (3, 10), (0, 0), (0, 0), (0, 0), (0, 0), (0, 0), (0, 0), (0, 0), (4, 9)],
  [(3, 400), (0, 0), (0, 0)],
  [(3, 9), (0, 0), (3, 9), (3, 5), (3, 5), (0, 0), (3, 6), (0, 0)],
  [(3, 3), (3, 3), (0, 0), (3, 9), (4, 9), (4, 5), (0, 0), (1, 0), (1, 0)],
  [(9, 0), (9, 0), (9, 0), (7, 4), (5, 4), (8, 6), (0, 0), (3, 3), (9, 0), (9, 0), (9, 0), (9, 0), (9, 0), (9, 0)],
  [(0, 0), (3, 3), (3, 18), (3, 12), (3, 12), (3, 12), (3, 12), (3, 16), (3, 16), (3, 8), (3, 8), (3, 8), (3, 8), (3, 12), (3, 12), (3, 12), (3, 12), (3, 16), (3, 16), (3, 8), (3, 8), (3, 8), (3, 10), (3, 10), (3, 10), (3, 10), (3, 9), (3, 9), (3, 5), (3, 5), (3, 20), (3, 20), (0, 0), (0, 0), (0, 0), (0, 0), (0, 0), (0, 0), (0, 0), (0, 0), (0, 0), (0, 0), (0, 0), (6, 400), (3, 1800), (3, 1800), (3, 6), (3, 72), (3, 72), (3, 72), (3, 72), (3, 402), (4, 9), (4, 300), (3, 18), (3, 12), (3, 16), (3, 512), (3, 512), (4, 137842), (3, 3), (3, 3), (0, 0), (3, 81), (3, 10), (3, 1024), (3, 4810), (3, 1000), (5, 4), (0, 0), (2, 0)]]
def ftab (ci j : Nat) : Nat × Nat := (ftL.getD ci []).getD j (99, 0)
def subC (ci j o : Nat) : Nat := match ci, j with
  | 11, 0 => 1
  | 11, 1 => 2
  | 11, 2 => 5
  | 11, 8 => 20
  | 11, 9 => 22
  | 11, 10 => 24
  | 11, 11 => 25
  | 11, 12 => 26
  | 11, 13 => 27
  | 7, 0 => o + 1
  | 7, 1 => o + 2
  | 6, 0 => 21
  | 3, 0 => 23
  | _, _ => 0
def eltC (j : Nat) (i : Int) : Nat := match j with
  | 3 => 8 + 3 * i.toNat
  | _ => 28 + i.toNat
def ckL : List Nat := [0, 3, 3, 3, 3, 0, 0, 30, 0, 0, 20, 6, 20, 6, 20, 6, 20, 6, 20, 6, 20, 6, 20, 6, 20, 6, 20, 6, 20, 6, 20, 6, 20, 6, 20, 6, 20, 6, 20, 6, 20, 6, 20, 6, 20, 6, 20, 6, 20, 6, 20, 6, 20, 6, 20, 6, 20, 6, 20, 6]
def ckind (q : Nat) : Nat := ckL.getD q 0
def cvL : List (List Int) := [[],
  [12, 16, 1, 1, 1, 8, 1],
  [4, 2, 1, 1, 1, 3, 2],
  [1, 1, 0, 0, 0, 0, 0, 0, 0, 0, 0, 0, 0, 0, 0, 0, 0, 0, 0, 0, 1, 1, 0, 0, 1, 0, 0, 0],
  [480, 99, 9, 96, 0, 0, 0, 0, 8, 0, 0, 0, 8, 0, 0, 0, 80, 0, 0, 0, 80, 99, 999, 0, 80, 999, 0, 0],
  [],
  [],
  [],
  [],
  [],
  [],
  [98, 97, 108, 101, 32, 102, 108, 97, 119, 32, 116, 104, 117, 109, 98, 32, 97, 115, 107, 101, 119, 32, 98, 111, 97, 114, 100, 32, 102, 111, 114, 109, 32, 112, 97, 105, 114],
  [],
  [102, 114, 111, 109, 32, 103, 105, 118, 101],
  [],
  [110, 111, 116],
  [],
  [108, 101, 102, 116, 32, 111, 114, 100, 101, 114, 32, 114, 101, 115, 116, 32, 102, 108, 97, 119, 115, 32, 119, 105, 100, 116, 104, 32, 108, 111, 116, 32, 115, 116, 114, 105, 112, 101, 32, 98, 97, 108, 101, 32, 100, 97, 121],
  [],
  [97, 110, 100, 32, 111, 114],
  [],
  [105, 102],
  [],
  [98, 97, 108, 101],
  [],
  [102, 108, 97, 119],
  [],
  [116, 104, 117, 109, 98],
  [],
  [97, 115, 107, 101, 119],
  [],
  [98, 111, 97, 114, 100],
  [],
  [102, 111, 114, 109],
  [],
  [112, 97, 105, 114],
  [],
  [103, 105, 118, 101],
  [],
  [102, 114, 111, 109],
  [],
  [108, 101, 102, 116],
  [],
  [111, 114, 100, 101, 114],
  [],
  [114, 101, 115, 116],
  [],
  [102, 108, 97, 119, 115],
  [],
  [119, 105, 100, 116, 104],
  [],
  [108, 111, 116],
  [],
  [115, 116, 114, 105, 112, 101],
  [],
  [100, 97, 121],
  [],
  [97, 110, 100],
  [],
  [111, 114]]
def clen (q : Nat) : Nat := (cvL.getD q []).length
def cval (q : Nat) (i : Int) : Int := (cvL.getD q []).getD i.toNat 0
