-- ===== PART A: goes FIRST, ahead of the names: the tables' words, and 'selects' of the private methods out of them =====
/-- a private method of a class that the tables say can be made, by its rows of tables_1 -/
def lw_okq (q : MethodName × Nat) : Prop := (q.1.cls ≠ "java/lang/invoke/MethodHandle" ∧ q.1.cls ≠ "java/lang/invoke/VarHandle") ∧ Cond.instantiable q.1.cls q.2 ∈ tables_1 ∧ Cond.privateMethod q.1 ∈ tables_1 ∧ Cond.instanceMethod q.1 ∈ tables_1
theorem lw_p0 : lw_okq (⟨"SecondNearest$PlainReader", "takeClause", "()Z"⟩, 2) := ⟨⟨by decide +kernel, by decide +kernel⟩, List.mem_of_getElem? (i := 166) (by decide +kernel), List.mem_of_getElem? (i := 382) (by decide +kernel), List.mem_of_getElem? (i := 383) (by decide +kernel)⟩
theorem lw_p1 : lw_okq (⟨"SecondNearest$PlainReader", "takeRow", "(I)Z"⟩, 2) := ⟨⟨by decide +kernel, by decide +kernel⟩, List.mem_of_getElem? (i := 166) (by decide +kernel), List.mem_of_getElem? (i := 444) (by decide +kernel), List.mem_of_getElem? (i := 445) (by decide +kernel)⟩
theorem lw_p2 : lw_okq (⟨"SecondNearest$PlainReader", "takePerson", "(I)Z"⟩, 2) := ⟨⟨by decide +kernel, by decide +kernel⟩, List.mem_of_getElem? (i := 166) (by decide +kernel), List.mem_of_getElem? (i := 459) (by decide +kernel), List.mem_of_getElem? (i := 460) (by decide +kernel)⟩
theorem lw_p3 : lw_okq (⟨"SecondNearest$PlainReader", "takePlace", "()I"⟩, 2) := ⟨⟨by decide +kernel, by decide +kernel⟩, List.mem_of_getElem? (i := 166) (by decide +kernel), List.mem_of_getElem? (i := 463) (by decide +kernel), List.mem_of_getElem? (i := 464) (by decide +kernel)⟩
theorem lw_p4 : lw_okq (⟨"SecondNearest$PlainReader", "takeHerald", "(I)Z"⟩, 2) := ⟨⟨by decide +kernel, by decide +kernel⟩, List.mem_of_getElem? (i := 166) (by decide +kernel), List.mem_of_getElem? (i := 495) (by decide +kernel), List.mem_of_getElem? (i := 496) (by decide +kernel)⟩
theorem lw_p5 : lw_okq (⟨"SecondNearest$LawReader", "takeClause", "()Z"⟩, 3) := ⟨⟨by decide +kernel, by decide +kernel⟩, List.mem_of_getElem? (i := 179) (by decide +kernel), List.mem_of_getElem? (i := 550) (by decide +kernel), List.mem_of_getElem? (i := 551) (by decide +kernel)⟩
theorem lw_p6 : lw_okq (⟨"SecondNearest$LawReader", "takeTest", "(I)Z"⟩, 3) := ⟨⟨by decide +kernel, by decide +kernel⟩, List.mem_of_getElem? (i := 179) (by decide +kernel), List.mem_of_getElem? (i := 560) (by decide +kernel), List.mem_of_getElem? (i := 561) (by decide +kernel)⟩
theorem lw_p7 : lw_okq (⟨"SecondNearest$LawReader", "takeFact", "(I)Z"⟩, 3) := ⟨⟨by decide +kernel, by decide +kernel⟩, List.mem_of_getElem? (i := 179) (by decide +kernel), List.mem_of_getElem? (i := 564) (by decide +kernel), List.mem_of_getElem? (i := 565) (by decide +kernel)⟩
theorem lw_p8 : lw_okq (⟨"SecondNearest$LawReader", "takeSum", "()Z"⟩, 3) := ⟨⟨by decide +kernel, by decide +kernel⟩, List.mem_of_getElem? (i := 179) (by decide +kernel), List.mem_of_getElem? (i := 574) (by decide +kernel), List.mem_of_getElem? (i := 575) (by decide +kernel)⟩
theorem lw_p9 : lw_okq (⟨"SecondNearest$LawReader", "takeValue", "()Z"⟩, 3) := ⟨⟨by decide +kernel, by decide +kernel⟩, List.mem_of_getElem? (i := 179) (by decide +kernel), List.mem_of_getElem? (i := 578) (by decide +kernel), List.mem_of_getElem? (i := 579) (by decide +kernel)⟩
theorem lw_p10 : lw_okq (⟨"SecondNearest$LawReader", "grow", "(I)Z"⟩, 3) := ⟨⟨by decide +kernel, by decide +kernel⟩, List.mem_of_getElem? (i := 179) (by decide +kernel), List.mem_of_getElem? (i := 585) (by decide +kernel), List.mem_of_getElem? (i := 586) (by decide +kernel)⟩
theorem lw_p11 : lw_okq (⟨"SecondNearest$LawReader", "takeWorking", "()I"⟩, 3) := ⟨⟨by decide +kernel, by decide +kernel⟩, List.mem_of_getElem? (i := 179) (by decide +kernel), List.mem_of_getElem? (i := 589) (by decide +kernel), List.mem_of_getElem? (i := 590) (by decide +kernel)⟩
theorem lw_p12 : lw_okq (⟨"SecondNearest$LawReader", "takeComparing", "()I"⟩, 3) := ⟨⟨by decide +kernel, by decide +kernel⟩, List.mem_of_getElem? (i := 179) (by decide +kernel), List.mem_of_getElem? (i := 597) (by decide +kernel), List.mem_of_getElem? (i := 598) (by decide +kernel)⟩
theorem lw_p13 : lw_okq (⟨"SecondNearest$Walker", "insert", "(I)V"⟩, 8) := ⟨⟨by decide +kernel, by decide +kernel⟩, List.mem_of_getElem? (i := 246) (by decide +kernel), List.mem_of_getElem? (i := 661) (by decide +kernel), List.mem_of_getElem? (i := 662) (by decide +kernel)⟩
theorem lw_p14 : lw_okq (⟨"SecondNearest", "canWalk", "(I)Z"⟩, 12) := ⟨⟨by decide +kernel, by decide +kernel⟩, List.mem_of_getElem? (i := 20) (by decide +kernel), List.mem_of_getElem? (i := 689) (by decide +kernel), List.mem_of_getElem? (i := 690) (by decide +kernel)⟩
theorem lw_p15 : lw_okq (⟨"SecondNearest$Walker", "choose", "(LSecondNearest$Scene;LSecondNearest$Law;I)I"⟩, 8) := ⟨⟨by decide +kernel, by decide +kernel⟩, List.mem_of_getElem? (i := 246) (by decide +kernel), List.mem_of_getElem? (i := 702) (by decide +kernel), List.mem_of_getElem? (i := 703) (by decide +kernel)⟩
def lw_privs_1 : List (MethodName × Nat) := [(⟨"SecondNearest$PlainReader", "takeClause", "()Z"⟩, 2), (⟨"SecondNearest$PlainReader", "takeRow", "(I)Z"⟩, 2), (⟨"SecondNearest$PlainReader", "takePerson", "(I)Z"⟩, 2), (⟨"SecondNearest$PlainReader", "takePlace", "()I"⟩, 2), (⟨"SecondNearest$PlainReader", "takeHerald", "(I)Z"⟩, 2), (⟨"SecondNearest$LawReader", "takeClause", "()Z"⟩, 3), (⟨"SecondNearest$LawReader", "takeTest", "(I)Z"⟩, 3), (⟨"SecondNearest$LawReader", "takeFact", "(I)Z"⟩, 3), (⟨"SecondNearest$LawReader", "takeSum", "()Z"⟩, 3), (⟨"SecondNearest$LawReader", "takeValue", "()Z"⟩, 3), (⟨"SecondNearest$LawReader", "grow", "(I)Z"⟩, 3), (⟨"SecondNearest$LawReader", "takeWorking", "()I"⟩, 3), (⟨"SecondNearest$LawReader", "takeComparing", "()I"⟩, 3), (⟨"SecondNearest$Walker", "insert", "(I)V"⟩, 8), (⟨"SecondNearest", "canWalk", "(I)Z"⟩, 12), (⟨"SecondNearest$Walker", "choose", "(LSecondNearest$Scene;LSecondNearest$Law;I)I"⟩, 8)]
theorem lw_r1 : ∀ q ∈ lw_privs_1, lw_okq q := List.forall_mem_cons.mpr ⟨lw_p0, List.forall_mem_cons.mpr ⟨lw_p1, List.forall_mem_cons.mpr ⟨lw_p2, List.forall_mem_cons.mpr ⟨lw_p3, List.forall_mem_cons.mpr ⟨lw_p4, List.forall_mem_cons.mpr ⟨lw_p5, List.forall_mem_cons.mpr ⟨lw_p6, List.forall_mem_cons.mpr ⟨lw_p7, List.forall_mem_cons.mpr ⟨lw_p8, List.forall_mem_cons.mpr ⟨lw_p9, List.forall_mem_cons.mpr ⟨lw_p10, List.forall_mem_cons.mpr ⟨lw_p11, List.forall_mem_cons.mpr ⟨lw_p12, List.forall_mem_cons.mpr ⟨lw_p13, List.forall_mem_cons.mpr ⟨lw_p14, List.forall_mem_cons.mpr ⟨lw_p15, fun _ h => absurd h List.not_mem_nil⟩⟩⟩⟩⟩⟩⟩⟩⟩⟩⟩⟩⟩⟩⟩⟩
theorem lw_p16 : lw_okq (⟨"SecondNearest$Walker", "holds", "(LSecondNearest$Scene;[IIII)Z"⟩, 8) := ⟨⟨by decide +kernel, by decide +kernel⟩, List.mem_of_getElem? (i := 246) (by decide +kernel), List.mem_of_getElem? (i := 706) (by decide +kernel), List.mem_of_getElem? (i := 707) (by decide +kernel)⟩
theorem lw_p17 : lw_okq (⟨"SecondNearest$Walker", "valueOf", "(LSecondNearest$Scene;II)J"⟩, 8) := ⟨⟨by decide +kernel, by decide +kernel⟩, List.mem_of_getElem? (i := 246) (by decide +kernel), List.mem_of_getElem? (i := 714) (by decide +kernel), List.mem_of_getElem? (i := 715) (by decide +kernel)⟩
theorem lw_p18 : lw_okq (⟨"SecondNearest$Planner", "keepSituation", "(I)V"⟩, 8) := ⟨⟨by decide +kernel, by decide +kernel⟩, List.mem_of_getElem? (i := 281) (by decide +kernel), List.mem_of_getElem? (i := 757) (by decide +kernel), List.mem_of_getElem? (i := 758) (by decide +kernel)⟩
theorem lw_p19 : lw_okq (⟨"SecondNearest$Planner", "findBefore", "(I)I"⟩, 8) := ⟨⟨by decide +kernel, by decide +kernel⟩, List.mem_of_getElem? (i := 281) (by decide +kernel), List.mem_of_getElem? (i := 762) (by decide +kernel), List.mem_of_getElem? (i := 763) (by decide +kernel)⟩
theorem lw_p20 : lw_okq (⟨"SecondNearest$Planner", "ringFrom", "(I)I"⟩, 8) := ⟨⟨by decide +kernel, by decide +kernel⟩, List.mem_of_getElem? (i := 281) (by decide +kernel), List.mem_of_getElem? (i := 786) (by decide +kernel), List.mem_of_getElem? (i := 787) (by decide +kernel)⟩
theorem lw_p21 : lw_okq (⟨"SecondNearest$Planner", "walkUsually", "(LSecondNearest$Law;I)V"⟩, 8) := ⟨⟨by decide +kernel, by decide +kernel⟩, List.mem_of_getElem? (i := 281) (by decide +kernel), List.mem_of_getElem? (i := 798) (by decide +kernel), List.mem_of_getElem? (i := 799) (by decide +kernel)⟩
theorem lw_p22 : lw_okq (⟨"SecondNearest$Planner", "countElsewhere", "(LSecondNearest$Law;II)I"⟩, 8) := ⟨⟨by decide +kernel, by decide +kernel⟩, List.mem_of_getElem? (i := 281) (by decide +kernel), List.mem_of_getElem? (i := 802) (by decide +kernel), List.mem_of_getElem? (i := 803) (by decide +kernel)⟩
theorem lw_p23 : lw_okq (⟨"SecondNearest$Planner", "boundOfOut", "(I)I"⟩, 8) := ⟨⟨by decide +kernel, by decide +kernel⟩, List.mem_of_getElem? (i := 281) (by decide +kernel), List.mem_of_getElem? (i := 824) (by decide +kernel), List.mem_of_getElem? (i := 825) (by decide +kernel)⟩
theorem lw_p24 : lw_okq (⟨"SecondNearest$Planner", "tryCourse", "(LSecondNearest$Law;III)I"⟩, 8) := ⟨⟨by decide +kernel, by decide +kernel⟩, List.mem_of_getElem? (i := 281) (by decide +kernel), List.mem_of_getElem? (i := 840) (by decide +kernel), List.mem_of_getElem? (i := 841) (by decide +kernel)⟩
theorem lw_p25 : lw_okq (⟨"SecondNearest$Planner", "arrange", "(II)Z"⟩, 8) := ⟨⟨by decide +kernel, by decide +kernel⟩, List.mem_of_getElem? (i := 281) (by decide +kernel), List.mem_of_getElem? (i := 865) (by decide +kernel), List.mem_of_getElem? (i := 866) (by decide +kernel)⟩
theorem lw_p26 : lw_okq (⟨"SecondNearest$Planner", "leadsHere", "(LSecondNearest$Law;I)Z"⟩, 8) := ⟨⟨by decide +kernel, by decide +kernel⟩, List.mem_of_getElem? (i := 281) (by decide +kernel), List.mem_of_getElem? (i := 870) (by decide +kernel), List.mem_of_getElem? (i := 871) (by decide +kernel)⟩
theorem lw_p27 : lw_okq (⟨"SecondNearest$Planner", "isFollowing", "(II)Z"⟩, 8) := ⟨⟨by decide +kernel, by decide +kernel⟩, List.mem_of_getElem? (i := 281) (by decide +kernel), List.mem_of_getElem? (i := 890) (by decide +kernel), List.mem_of_getElem? (i := 891) (by decide +kernel)⟩
theorem lw_p28 : lw_okq (⟨"SecondNearestModel", "put", "(I)V"⟩, 56) := ⟨⟨by decide +kernel, by decide +kernel⟩, List.mem_of_getElem? (i := 910) (by decide +kernel), List.mem_of_getElem? (i := 1088) (by decide +kernel), List.mem_of_getElem? (i := 1089) (by decide +kernel)⟩
theorem lw_p29 : lw_okq (⟨"SecondNearestModel", "starts", "()V"⟩, 56) := ⟨⟨by decide +kernel, by decide +kernel⟩, List.mem_of_getElem? (i := 910) (by decide +kernel), List.mem_of_getElem? (i := 1100) (by decide +kernel), List.mem_of_getElem? (i := 1101) (by decide +kernel)⟩
theorem lw_p30 : lw_okq (⟨"SecondNearestModel", "plainClause", "(I)V"⟩, 56) := ⟨⟨by decide +kernel, by decide +kernel⟩, List.mem_of_getElem? (i := 910) (by decide +kernel), List.mem_of_getElem? (i := 1104) (by decide +kernel), List.mem_of_getElem? (i := 1105) (by decide +kernel)⟩
theorem lw_p31 : lw_okq (⟨"SecondNearestModel", "blanks", "()V"⟩, 56) := ⟨⟨by decide +kernel, by decide +kernel⟩, List.mem_of_getElem? (i := 910) (by decide +kernel), List.mem_of_getElem? (i := 1108) (by decide +kernel), List.mem_of_getElem? (i := 1109) (by decide +kernel)⟩
def lw_privs_2 : List (MethodName × Nat) := [(⟨"SecondNearest$Walker", "holds", "(LSecondNearest$Scene;[IIII)Z"⟩, 8), (⟨"SecondNearest$Walker", "valueOf", "(LSecondNearest$Scene;II)J"⟩, 8), (⟨"SecondNearest$Planner", "keepSituation", "(I)V"⟩, 8), (⟨"SecondNearest$Planner", "findBefore", "(I)I"⟩, 8), (⟨"SecondNearest$Planner", "ringFrom", "(I)I"⟩, 8), (⟨"SecondNearest$Planner", "walkUsually", "(LSecondNearest$Law;I)V"⟩, 8), (⟨"SecondNearest$Planner", "countElsewhere", "(LSecondNearest$Law;II)I"⟩, 8), (⟨"SecondNearest$Planner", "boundOfOut", "(I)I"⟩, 8), (⟨"SecondNearest$Planner", "tryCourse", "(LSecondNearest$Law;III)I"⟩, 8), (⟨"SecondNearest$Planner", "arrange", "(II)Z"⟩, 8), (⟨"SecondNearest$Planner", "leadsHere", "(LSecondNearest$Law;I)Z"⟩, 8), (⟨"SecondNearest$Planner", "isFollowing", "(II)Z"⟩, 8), (⟨"SecondNearestModel", "put", "(I)V"⟩, 56), (⟨"SecondNearestModel", "starts", "()V"⟩, 56), (⟨"SecondNearestModel", "plainClause", "(I)V"⟩, 56), (⟨"SecondNearestModel", "blanks", "()V"⟩, 56)]
theorem lw_r2 : ∀ q ∈ lw_privs_2, lw_okq q := List.forall_mem_cons.mpr ⟨lw_p16, List.forall_mem_cons.mpr ⟨lw_p17, List.forall_mem_cons.mpr ⟨lw_p18, List.forall_mem_cons.mpr ⟨lw_p19, List.forall_mem_cons.mpr ⟨lw_p20, List.forall_mem_cons.mpr ⟨lw_p21, List.forall_mem_cons.mpr ⟨lw_p22, List.forall_mem_cons.mpr ⟨lw_p23, List.forall_mem_cons.mpr ⟨lw_p24, List.forall_mem_cons.mpr ⟨lw_p25, List.forall_mem_cons.mpr ⟨lw_p26, List.forall_mem_cons.mpr ⟨lw_p27, List.forall_mem_cons.mpr ⟨lw_p28, List.forall_mem_cons.mpr ⟨lw_p29, List.forall_mem_cons.mpr ⟨lw_p30, List.forall_mem_cons.mpr ⟨lw_p31, fun _ h => absurd h List.not_mem_nil⟩⟩⟩⟩⟩⟩⟩⟩⟩⟩⟩⟩⟩⟩⟩⟩
theorem lw_p32 : lw_okq (⟨"SecondNearestModel", "sign", "()I"⟩, 56) := ⟨⟨by decide +kernel, by decide +kernel⟩, List.mem_of_getElem? (i := 910) (by decide +kernel), List.mem_of_getElem? (i := 1112) (by decide +kernel), List.mem_of_getElem? (i := 1113) (by decide +kernel)⟩
theorem lw_p33 : lw_okq (⟨"SecondNearestModel", "stood", "(Ljava/lang/String;)Z"⟩, 56) := ⟨⟨by decide +kernel, by decide +kernel⟩, List.mem_of_getElem? (i := 910) (by decide +kernel), List.mem_of_getElem? (i := 1117) (by decide +kernel), List.mem_of_getElem? (i := 1118) (by decide +kernel)⟩
theorem lw_p34 : lw_okq (⟨"SecondNearestModel", "fails", "(II)V"⟩, 56) := ⟨⟨by decide +kernel, by decide +kernel⟩, List.mem_of_getElem? (i := 910) (by decide +kernel), List.mem_of_getElem? (i := 1125) (by decide +kernel), List.mem_of_getElem? (i := 1126) (by decide +kernel)⟩
theorem lw_p35 : lw_okq (⟨"SecondNearestModel", "isFull", "(II)Z"⟩, 56) := ⟨⟨by decide +kernel, by decide +kernel⟩, List.mem_of_getElem? (i := 910) (by decide +kernel), List.mem_of_getElem? (i := 1129) (by decide +kernel), List.mem_of_getElem? (i := 1130) (by decide +kernel)⟩
theorem lw_p36 : lw_okq (⟨"SecondNearestModel", "signs", "()V"⟩, 56) := ⟨⟨by decide +kernel, by decide +kernel⟩, List.mem_of_getElem? (i := 910) (by decide +kernel), List.mem_of_getElem? (i := 1133) (by decide +kernel), List.mem_of_getElem? (i := 1134) (by decide +kernel)⟩
theorem lw_p37 : lw_okq (⟨"SecondNearestModel", "signKind", "()I"⟩, 56) := ⟨⟨by decide +kernel, by decide +kernel⟩, List.mem_of_getElem? (i := 910) (by decide +kernel), List.mem_of_getElem? (i := 1137) (by decide +kernel), List.mem_of_getElem? (i := 1138) (by decide +kernel)⟩
theorem lw_p38 : lw_okq (⟨"SecondNearestModel", "spot", "()I"⟩, 56) := ⟨⟨by decide +kernel, by decide +kernel⟩, List.mem_of_getElem? (i := 910) (by decide +kernel), List.mem_of_getElem? (i := 1141) (by decide +kernel), List.mem_of_getElem? (i := 1142) (by decide +kernel)⟩
theorem lw_p39 : lw_okq (⟨"SecondNearestModel", "amount", "(II)I"⟩, 56) := ⟨⟨by decide +kernel, by decide +kernel⟩, List.mem_of_getElem? (i := 910) (by decide +kernel), List.mem_of_getElem? (i := 1145) (by decide +kernel), List.mem_of_getElem? (i := 1146) (by decide +kernel)⟩
theorem lw_p40 : lw_okq (⟨"SecondNearestModel", "digits", "(I)I"⟩, 56) := ⟨⟨by decide +kernel, by decide +kernel⟩, List.mem_of_getElem? (i := 910) (by decide +kernel), List.mem_of_getElem? (i := 1150) (by decide +kernel), List.mem_of_getElem? (i := 1151) (by decide +kernel)⟩
theorem lw_p41 : lw_okq (⟨"SecondNearestModel", "isDigit", "()Z"⟩, 56) := ⟨⟨by decide +kernel, by decide +kernel⟩, List.mem_of_getElem? (i := 910) (by decide +kernel), List.mem_of_getElem? (i := 1154) (by decide +kernel), List.mem_of_getElem? (i := 1155) (by decide +kernel)⟩
theorem lw_p42 : lw_okq (⟨"SecondNearestModel", "goesOn", "()Z"⟩, 56) := ⟨⟨by decide +kernel, by decide +kernel⟩, List.mem_of_getElem? (i := 910) (by decide +kernel), List.mem_of_getElem? (i := 1166) (by decide +kernel), List.mem_of_getElem? (i := 1167) (by decide +kernel)⟩
theorem lw_p43 : lw_okq (⟨"SecondNearestModel", "fillsGates", "()V"⟩, 56) := ⟨⟨by decide +kernel, by decide +kernel⟩, List.mem_of_getElem? (i := 910) (by decide +kernel), List.mem_of_getElem? (i := 1173) (by decide +kernel), List.mem_of_getElem? (i := 1174) (by decide +kernel)⟩
theorem lw_p44 : lw_okq (⟨"SecondNearestModel", "isThere", "(I)Z"⟩, 56) := ⟨⟨by decide +kernel, by decide +kernel⟩, List.mem_of_getElem? (i := 910) (by decide +kernel), List.mem_of_getElem? (i := 1177) (by decide +kernel), List.mem_of_getElem? (i := 1178) (by decide +kernel)⟩
theorem lw_p45 : lw_okq (⟨"SecondNearestModel", "isCell", "(II)Z"⟩, 56) := ⟨⟨by decide +kernel, by decide +kernel⟩, List.mem_of_getElem? (i := 910) (by decide +kernel), List.mem_of_getElem? (i := 1181) (by decide +kernel), List.mem_of_getElem? (i := 1182) (by decide +kernel)⟩
theorem lw_p46 : lw_okq (⟨"SecondNearestModel", "beside", "(II)I"⟩, 56) := ⟨⟨by decide +kernel, by decide +kernel⟩, List.mem_of_getElem? (i := 910) (by decide +kernel), List.mem_of_getElem? (i := 1185) (by decide +kernel), List.mem_of_getElem? (i := 1186) (by decide +kernel)⟩
theorem lw_p47 : lw_okq (⟨"SecondNearestModel", "lawClause", "(I)V"⟩, 56) := ⟨⟨by decide +kernel, by decide +kernel⟩, List.mem_of_getElem? (i := 910) (by decide +kernel), List.mem_of_getElem? (i := 1196) (by decide +kernel), List.mem_of_getElem? (i := 1197) (by decide +kernel)⟩
def lw_privs_3 : List (MethodName × Nat) := [(⟨"SecondNearestModel", "sign", "()I"⟩, 56), (⟨"SecondNearestModel", "stood", "(Ljava/lang/String;)Z"⟩, 56), (⟨"SecondNearestModel", "fails", "(II)V"⟩, 56), (⟨"SecondNearestModel", "isFull", "(II)Z"⟩, 56), (⟨"SecondNearestModel", "signs", "()V"⟩, 56), (⟨"SecondNearestModel", "signKind", "()I"⟩, 56), (⟨"SecondNearestModel", "spot", "()I"⟩, 56), (⟨"SecondNearestModel", "amount", "(II)I"⟩, 56), (⟨"SecondNearestModel", "digits", "(I)I"⟩, 56), (⟨"SecondNearestModel", "isDigit", "()Z"⟩, 56), (⟨"SecondNearestModel", "goesOn", "()Z"⟩, 56), (⟨"SecondNearestModel", "fillsGates", "()V"⟩, 56), (⟨"SecondNearestModel", "isThere", "(I)Z"⟩, 56), (⟨"SecondNearestModel", "isCell", "(II)Z"⟩, 56), (⟨"SecondNearestModel", "beside", "(II)I"⟩, 56), (⟨"SecondNearestModel", "lawClause", "(I)V"⟩, 56)]
theorem lw_r3 : ∀ q ∈ lw_privs_3, lw_okq q := List.forall_mem_cons.mpr ⟨lw_p32, List.forall_mem_cons.mpr ⟨lw_p33, List.forall_mem_cons.mpr ⟨lw_p34, List.forall_mem_cons.mpr ⟨lw_p35, List.forall_mem_cons.mpr ⟨lw_p36, List.forall_mem_cons.mpr ⟨lw_p37, List.forall_mem_cons.mpr ⟨lw_p38, List.forall_mem_cons.mpr ⟨lw_p39, List.forall_mem_cons.mpr ⟨lw_p40, List.forall_mem_cons.mpr ⟨lw_p41, List.forall_mem_cons.mpr ⟨lw_p42, List.forall_mem_cons.mpr ⟨lw_p43, List.forall_mem_cons.mpr ⟨lw_p44, List.forall_mem_cons.mpr ⟨lw_p45, List.forall_mem_cons.mpr ⟨lw_p46, List.forall_mem_cons.mpr ⟨lw_p47, fun _ h => absurd h List.not_mem_nil⟩⟩⟩⟩⟩⟩⟩⟩⟩⟩⟩⟩⟩⟩⟩⟩
theorem lw_p48 : lw_okq (⟨"SecondNearestModel", "takes", "(Ljava/lang/String;)Z"⟩, 56) := ⟨⟨by decide +kernel, by decide +kernel⟩, List.mem_of_getElem? (i := 910) (by decide +kernel), List.mem_of_getElem? (i := 1203) (by decide +kernel), List.mem_of_getElem? (i := 1204) (by decide +kernel)⟩
theorem lw_p49 : lw_okq (⟨"SecondNearestModel", "test", "()V"⟩, 56) := ⟨⟨by decide +kernel, by decide +kernel⟩, List.mem_of_getElem? (i := 910) (by decide +kernel), List.mem_of_getElem? (i := 1207) (by decide +kernel), List.mem_of_getElem? (i := 1208) (by decide +kernel)⟩
theorem lw_p50 : lw_okq (⟨"SecondNearestModel", "fact", "()Z"⟩, 56) := ⟨⟨by decide +kernel, by decide +kernel⟩, List.mem_of_getElem? (i := 910) (by decide +kernel), List.mem_of_getElem? (i := 1211) (by decide +kernel), List.mem_of_getElem? (i := 1212) (by decide +kernel)⟩
theorem lw_p51 : lw_okq (⟨"SecondNearestModel", "opens", "(I)V"⟩, 56) := ⟨⟨by decide +kernel, by decide +kernel⟩, List.mem_of_getElem? (i := 910) (by decide +kernel), List.mem_of_getElem? (i := 1216) (by decide +kernel), List.mem_of_getElem? (i := 1217) (by decide +kernel)⟩
theorem lw_p52 : lw_okq (⟨"SecondNearestModel", "compared", "()V"⟩, 56) := ⟨⟨by decide +kernel, by decide +kernel⟩, List.mem_of_getElem? (i := 910) (by decide +kernel), List.mem_of_getElem? (i := 1220) (by decide +kernel), List.mem_of_getElem? (i := 1221) (by decide +kernel)⟩
theorem lw_p53 : lw_okq (⟨"SecondNearestModel", "sum", "()V"⟩, 56) := ⟨⟨by decide +kernel, by decide +kernel⟩, List.mem_of_getElem? (i := 910) (by decide +kernel), List.mem_of_getElem? (i := 1224) (by decide +kernel), List.mem_of_getElem? (i := 1225) (by decide +kernel)⟩
theorem lw_p54 : lw_okq (⟨"SecondNearestModel", "term", "()V"⟩, 56) := ⟨⟨by decide +kernel, by decide +kernel⟩, List.mem_of_getElem? (i := 910) (by decide +kernel), List.mem_of_getElem? (i := 1228) (by decide +kernel), List.mem_of_getElem? (i := 1229) (by decide +kernel)⟩
theorem lw_p55 : lw_okq (⟨"SecondNearestModel", "value", "()V"⟩, 56) := ⟨⟨by decide +kernel, by decide +kernel⟩, List.mem_of_getElem? (i := 910) (by decide +kernel), List.mem_of_getElem? (i := 1232) (by decide +kernel), List.mem_of_getElem? (i := 1233) (by decide +kernel)⟩
theorem lw_p56 : lw_okq (⟨"SecondNearestModel", "isCounted", "(I)V"⟩, 56) := ⟨⟨by decide +kernel, by decide +kernel⟩, List.mem_of_getElem? (i := 910) (by decide +kernel), List.mem_of_getElem? (i := 1236) (by decide +kernel), List.mem_of_getElem? (i := 1237) (by decide +kernel)⟩
theorem lw_p57 : lw_okq (⟨"SecondNearestModel", "entry", "(II)V"⟩, 56) := ⟨⟨by decide +kernel, by decide +kernel⟩, List.mem_of_getElem? (i := 910) (by decide +kernel), List.mem_of_getElem? (i := 1240) (by decide +kernel), List.mem_of_getElem? (i := 1241) (by decide +kernel)⟩
theorem lw_p58 : lw_okq (⟨"SecondNearestModel", "answers", "(I)V"⟩, 56) := ⟨⟨by decide +kernel, by decide +kernel⟩, List.mem_of_getElem? (i := 910) (by decide +kernel), List.mem_of_getElem? (i := 1256) (by decide +kernel), List.mem_of_getElem? (i := 1257) (by decide +kernel)⟩
theorem lw_p59 : lw_okq (⟨"SecondNearestModel", "top", "()I"⟩, 56) := ⟨⟨by decide +kernel, by decide +kernel⟩, List.mem_of_getElem? (i := 910) (by decide +kernel), List.mem_of_getElem? (i := 1260) (by decide +kernel), List.mem_of_getElem? (i := 1261) (by decide +kernel)⟩
theorem lw_p60 : lw_okq (⟨"SecondNearestModel", "isPlain", "()Z"⟩, 56) := ⟨⟨by decide +kernel, by decide +kernel⟩, List.mem_of_getElem? (i := 910) (by decide +kernel), List.mem_of_getElem? (i := 1270) (by decide +kernel), List.mem_of_getElem? (i := 1271) (by decide +kernel)⟩
theorem lw_p61 : lw_okq (⟨"SecondNearestModel", "isLaw", "(I)Z"⟩, 56) := ⟨⟨by decide +kernel, by decide +kernel⟩, List.mem_of_getElem? (i := 910) (by decide +kernel), List.mem_of_getElem? (i := 1274) (by decide +kernel), List.mem_of_getElem? (i := 1275) (by decide +kernel)⟩
theorem lw_p62 : lw_okq (⟨"SecondNearestModel", "steps", "(II)V"⟩, 56) := ⟨⟨by decide +kernel, by decide +kernel⟩, List.mem_of_getElem? (i := 910) (by decide +kernel), List.mem_of_getElem? (i := 1279) (by decide +kernel), List.mem_of_getElem? (i := 1280) (by decide +kernel)⟩
theorem lw_p63 : lw_okq (⟨"SecondNearestModel", "step", "(I)V"⟩, 56) := ⟨⟨by decide +kernel, by decide +kernel⟩, List.mem_of_getElem? (i := 910) (by decide +kernel), List.mem_of_getElem? (i := 1283) (by decide +kernel), List.mem_of_getElem? (i := 1284) (by decide +kernel)⟩
def lw_privs_4 : List (MethodName × Nat) := [(⟨"SecondNearestModel", "takes", "(Ljava/lang/String;)Z"⟩, 56), (⟨"SecondNearestModel", "test", "()V"⟩, 56), (⟨"SecondNearestModel", "fact", "()Z"⟩, 56), (⟨"SecondNearestModel", "opens", "(I)V"⟩, 56), (⟨"SecondNearestModel", "compared", "()V"⟩, 56), (⟨"SecondNearestModel", "sum", "()V"⟩, 56), (⟨"SecondNearestModel", "term", "()V"⟩, 56), (⟨"SecondNearestModel", "value", "()V"⟩, 56), (⟨"SecondNearestModel", "isCounted", "(I)V"⟩, 56), (⟨"SecondNearestModel", "entry", "(II)V"⟩, 56), (⟨"SecondNearestModel", "answers", "(I)V"⟩, 56), (⟨"SecondNearestModel", "top", "()I"⟩, 56), (⟨"SecondNearestModel", "isPlain", "()Z"⟩, 56), (⟨"SecondNearestModel", "isLaw", "(I)Z"⟩, 56), (⟨"SecondNearestModel", "steps", "(II)V"⟩, 56), (⟨"SecondNearestModel", "step", "(I)V"⟩, 56)]
theorem lw_r4 : ∀ q ∈ lw_privs_4, lw_okq q := List.forall_mem_cons.mpr ⟨lw_p48, List.forall_mem_cons.mpr ⟨lw_p49, List.forall_mem_cons.mpr ⟨lw_p50, List.forall_mem_cons.mpr ⟨lw_p51, List.forall_mem_cons.mpr ⟨lw_p52, List.forall_mem_cons.mpr ⟨lw_p53, List.forall_mem_cons.mpr ⟨lw_p54, List.forall_mem_cons.mpr ⟨lw_p55, List.forall_mem_cons.mpr ⟨lw_p56, List.forall_mem_cons.mpr ⟨lw_p57, List.forall_mem_cons.mpr ⟨lw_p58, List.forall_mem_cons.mpr ⟨lw_p59, List.forall_mem_cons.mpr ⟨lw_p60, List.forall_mem_cons.mpr ⟨lw_p61, List.forall_mem_cons.mpr ⟨lw_p62, List.forall_mem_cons.mpr ⟨lw_p63, fun _ h => absurd h List.not_mem_nil⟩⟩⟩⟩⟩⟩⟩⟩⟩⟩⟩⟩⟩⟩⟩⟩
theorem lw_p64 : lw_okq (⟨"SecondNearestModel", "turn", "(II)V"⟩, 56) := ⟨⟨by decide +kernel, by decide +kernel⟩, List.mem_of_getElem? (i := 910) (by decide +kernel), List.mem_of_getElem? (i := 1287) (by decide +kernel), List.mem_of_getElem? (i := 1288) (by decide +kernel)⟩
theorem lw_p65 : lw_okq (⟨"SecondNearestModel", "followedBy", "(II)I"⟩, 56) := ⟨⟨by decide +kernel, by decide +kernel⟩, List.mem_of_getElem? (i := 910) (by decide +kernel), List.mem_of_getElem? (i := 1291) (by decide +kernel), List.mem_of_getElem? (i := 1292) (by decide +kernel)⟩
theorem lw_p66 : lw_okq (⟨"SecondNearestModel", "looks", "(I)V"⟩, 56) := ⟨⟨by decide +kernel, by decide +kernel⟩, List.mem_of_getElem? (i := 910) (by decide +kernel), List.mem_of_getElem? (i := 1295) (by decide +kernel), List.mem_of_getElem? (i := 1296) (by decide +kernel)⟩
theorem lw_p67 : lw_okq (⟨"SecondNearestModel", "isWho", "(I)Z"⟩, 56) := ⟨⟨by decide +kernel, by decide +kernel⟩, List.mem_of_getElem? (i := 910) (by decide +kernel), List.mem_of_getElem? (i := 1299) (by decide +kernel), List.mem_of_getElem? (i := 1300) (by decide +kernel)⟩
theorem lw_p68 : lw_okq (⟨"SecondNearestModel", "isPerson", "(I)Z"⟩, 56) := ⟨⟨by decide +kernel, by decide +kernel⟩, List.mem_of_getElem? (i := 910) (by decide +kernel), List.mem_of_getElem? (i := 1303) (by decide +kernel), List.mem_of_getElem? (i := 1304) (by decide +kernel)⟩
theorem lw_p69 : lw_okq (⟨"SecondNearestModel", "isClear", "(II)Z"⟩, 56) := ⟨⟨by decide +kernel, by decide +kernel⟩, List.mem_of_getElem? (i := 910) (by decide +kernel), List.mem_of_getElem? (i := 1308) (by decide +kernel), List.mem_of_getElem? (i := 1309) (by decide +kernel)⟩
theorem lw_p70 : lw_okq (⟨"SecondNearestModel", "isAhead", "(III)Z"⟩, 56) := ⟨⟨by decide +kernel, by decide +kernel⟩, List.mem_of_getElem? (i := 910) (by decide +kernel), List.mem_of_getElem? (i := 1318) (by decide +kernel), List.mem_of_getElem? (i := 1319) (by decide +kernel)⟩
theorem lw_p71 : lw_okq (⟨"SecondNearestModel", "besides", "(I)I"⟩, 56) := ⟨⟨by decide +kernel, by decide +kernel⟩, List.mem_of_getElem? (i := 910) (by decide +kernel), List.mem_of_getElem? (i := 1325) (by decide +kernel), List.mem_of_getElem? (i := 1326) (by decide +kernel)⟩
theorem lw_p72 : lw_okq (⟨"SecondNearestModel", "whoAt", "(I)I"⟩, 56) := ⟨⟨by decide +kernel, by decide +kernel⟩, List.mem_of_getElem? (i := 910) (by decide +kernel), List.mem_of_getElem? (i := 1329) (by decide +kernel), List.mem_of_getElem? (i := 1330) (by decide +kernel)⟩
theorem lw_p73 : lw_okq (⟨"SecondNearestModel", "answer", "(III)J"⟩, 56) := ⟨⟨by decide +kernel, by decide +kernel⟩, List.mem_of_getElem? (i := 910) (by decide +kernel), List.mem_of_getElem? (i := 1333) (by decide +kernel), List.mem_of_getElem? (i := 1334) (by decide +kernel)⟩
theorem lw_p74 : lw_okq (⟨"SecondNearestModel", "wayTo", "(II)I"⟩, 56) := ⟨⟨by decide +kernel, by decide +kernel⟩, List.mem_of_getElem? (i := 910) (by decide +kernel), List.mem_of_getElem? (i := 1343) (by decide +kernel), List.mem_of_getElem? (i := 1344) (by decide +kernel)⟩
theorem lw_p75 : lw_okq (⟨"SecondNearestModel", "isFree", "(I)Z"⟩, 56) := ⟨⟨by decide +kernel, by decide +kernel⟩, List.mem_of_getElem? (i := 910) (by decide +kernel), List.mem_of_getElem? (i := 1347) (by decide +kernel), List.mem_of_getElem? (i := 1348) (by decide +kernel)⟩
theorem lw_p76 : lw_okq (⟨"SecondNearestModel", "isHerald", "(I)Z"⟩, 56) := ⟨⟨by decide +kernel, by decide +kernel⟩, List.mem_of_getElem? (i := 910) (by decide +kernel), List.mem_of_getElem? (i := 1359) (by decide +kernel), List.mem_of_getElem? (i := 1360) (by decide +kernel)⟩
theorem lw_p77 : lw_okq (⟨"SecondNearestModel", "heraldGoes", "(II)Z"⟩, 56) := ⟨⟨by decide +kernel, by decide +kernel⟩, List.mem_of_getElem? (i := 910) (by decide +kernel), List.mem_of_getElem? (i := 1380) (by decide +kernel), List.mem_of_getElem? (i := 1381) (by decide +kernel)⟩
theorem lw_p78 : lw_okq (⟨"SecondNearestModel", "isAsked", "(II)Z"⟩, 56) := ⟨⟨by decide +kernel, by decide +kernel⟩, List.mem_of_getElem? (i := 910) (by decide +kernel), List.mem_of_getElem? (i := 1392) (by decide +kernel), List.mem_of_getElem? (i := 1393) (by decide +kernel)⟩
theorem lw_p79 : lw_okq (⟨"SecondNearestModel", "keeps", "()V"⟩, 56) := ⟨⟨by decide +kernel, by decide +kernel⟩, List.mem_of_getElem? (i := 910) (by decide +kernel), List.mem_of_getElem? (i := 1396) (by decide +kernel), List.mem_of_getElem? (i := 1397) (by decide +kernel)⟩
def lw_privs_5 : List (MethodName × Nat) := [(⟨"SecondNearestModel", "turn", "(II)V"⟩, 56), (⟨"SecondNearestModel", "followedBy", "(II)I"⟩, 56), (⟨"SecondNearestModel", "looks", "(I)V"⟩, 56), (⟨"SecondNearestModel", "isWho", "(I)Z"⟩, 56), (⟨"SecondNearestModel", "isPerson", "(I)Z"⟩, 56), (⟨"SecondNearestModel", "isClear", "(II)Z"⟩, 56), (⟨"SecondNearestModel", "isAhead", "(III)Z"⟩, 56), (⟨"SecondNearestModel", "besides", "(I)I"⟩, 56), (⟨"SecondNearestModel", "whoAt", "(I)I"⟩, 56), (⟨"SecondNearestModel", "answer", "(III)J"⟩, 56), (⟨"SecondNearestModel", "wayTo", "(II)I"⟩, 56), (⟨"SecondNearestModel", "isFree", "(I)Z"⟩, 56), (⟨"SecondNearestModel", "isHerald", "(I)Z"⟩, 56), (⟨"SecondNearestModel", "heraldGoes", "(II)Z"⟩, 56), (⟨"SecondNearestModel", "isAsked", "(II)Z"⟩, 56), (⟨"SecondNearestModel", "keeps", "()V"⟩, 56)]
theorem lw_r5 : ∀ q ∈ lw_privs_5, lw_okq q := List.forall_mem_cons.mpr ⟨lw_p64, List.forall_mem_cons.mpr ⟨lw_p65, List.forall_mem_cons.mpr ⟨lw_p66, List.forall_mem_cons.mpr ⟨lw_p67, List.forall_mem_cons.mpr ⟨lw_p68, List.forall_mem_cons.mpr ⟨lw_p69, List.forall_mem_cons.mpr ⟨lw_p70, List.forall_mem_cons.mpr ⟨lw_p71, List.forall_mem_cons.mpr ⟨lw_p72, List.forall_mem_cons.mpr ⟨lw_p73, List.forall_mem_cons.mpr ⟨lw_p74, List.forall_mem_cons.mpr ⟨lw_p75, List.forall_mem_cons.mpr ⟨lw_p76, List.forall_mem_cons.mpr ⟨lw_p77, List.forall_mem_cons.mpr ⟨lw_p78, List.forall_mem_cons.mpr ⟨lw_p79, fun _ h => absurd h List.not_mem_nil⟩⟩⟩⟩⟩⟩⟩⟩⟩⟩⟩⟩⟩⟩⟩⟩
theorem lw_p80 : lw_okq (⟨"SecondNearestModel", "outs", "()I"⟩, 56) := ⟨⟨by decide +kernel, by decide +kernel⟩, List.mem_of_getElem? (i := 910) (by decide +kernel), List.mem_of_getElem? (i := 1400) (by decide +kernel), List.mem_of_getElem? (i := 1401) (by decide +kernel)⟩
theorem lw_p81 : lw_okq (⟨"SecondNearestModel", "laysBack", "()V"⟩, 56) := ⟨⟨by decide +kernel, by decide +kernel⟩, List.mem_of_getElem? (i := 910) (by decide +kernel), List.mem_of_getElem? (i := 1404) (by decide +kernel), List.mem_of_getElem? (i := 1405) (by decide +kernel)⟩
theorem lw_p82 : lw_okq (⟨"SecondNearestModel", "areSame", "(II)Z"⟩, 56) := ⟨⟨by decide +kernel, by decide +kernel⟩, List.mem_of_getElem? (i := 910) (by decide +kernel), List.mem_of_getElem? (i := 1412) (by decide +kernel), List.mem_of_getElem? (i := 1413) (by decide +kernel)⟩
theorem lw_p83 : lw_okq (⟨"SecondNearestModel", "file", "(I)I"⟩, 56) := ⟨⟨by decide +kernel, by decide +kernel⟩, List.mem_of_getElem? (i := 910) (by decide +kernel), List.mem_of_getElem? (i := 1420) (by decide +kernel), List.mem_of_getElem? (i := 1421) (by decide +kernel)⟩
theorem lw_p84 : lw_okq (⟨"SecondNearestModel", "isInRing", "(I)Z"⟩, 56) := ⟨⟨by decide +kernel, by decide +kernel⟩, List.mem_of_getElem? (i := 910) (by decide +kernel), List.mem_of_getElem? (i := 1425) (by decide +kernel), List.mem_of_getElem? (i := 1426) (by decide +kernel)⟩
theorem lw_p85 : lw_okq (⟨"SecondNearestModel", "unlike", "(III)I"⟩, 56) := ⟨⟨by decide +kernel, by decide +kernel⟩, List.mem_of_getElem? (i := 910) (by decide +kernel), List.mem_of_getElem? (i := 1433) (by decide +kernel), List.mem_of_getElem? (i := 1434) (by decide +kernel)⟩
theorem lw_p86 : lw_okq (⟨"SecondNearestModel", "outsIn", "(II)I"⟩, 56) := ⟨⟨by decide +kernel, by decide +kernel⟩, List.mem_of_getElem? (i := 910) (by decide +kernel), List.mem_of_getElem? (i := 1445) (by decide +kernel), List.mem_of_getElem? (i := 1446) (by decide +kernel)⟩
theorem lw_p87 : lw_okq (⟨"SecondNearestModel", "outsBy", "(IIII)I"⟩, 56) := ⟨⟨by decide +kernel, by decide +kernel⟩, List.mem_of_getElem? (i := 910) (by decide +kernel), List.mem_of_getElem? (i := 1453) (by decide +kernel), List.mem_of_getElem? (i := 1454) (by decide +kernel)⟩
theorem lw_p88 : lw_okq (⟨"SecondNearestModel", "leadsHere", "(II)Z"⟩, 56) := ⟨⟨by decide +kernel, by decide +kernel⟩, List.mem_of_getElem? (i := 910) (by decide +kernel), List.mem_of_getElem? (i := 1468) (by decide +kernel), List.mem_of_getElem? (i := 1469) (by decide +kernel)⟩
theorem lw_p89 : lw_okq (⟨"SecondNearestModel", "mayStand", "(I)Z"⟩, 56) := ⟨⟨by decide +kernel, by decide +kernel⟩, List.mem_of_getElem? (i := 910) (by decide +kernel), List.mem_of_getElem? (i := 1472) (by decide +kernel), List.mem_of_getElem? (i := 1473) (by decide +kernel)⟩
theorem lw_p90 : lw_okq (⟨"SecondNearestModel", "carriesAll", "(IZ)V"⟩, 56) := ⟨⟨by decide +kernel, by decide +kernel⟩, List.mem_of_getElem? (i := 910) (by decide +kernel), List.mem_of_getElem? (i := 1496) (by decide +kernel), List.mem_of_getElem? (i := 1497) (by decide +kernel)⟩
theorem lw_p91 : lw_okq (⟨"SecondNearestModel", "carry", "([I)V"⟩, 56) := ⟨⟨by decide +kernel, by decide +kernel⟩, List.mem_of_getElem? (i := 910) (by decide +kernel), List.mem_of_getElem? (i := 1500) (by decide +kernel), List.mem_of_getElem? (i := 1501) (by decide +kernel)⟩
def lw_privs_6 : List (MethodName × Nat) := [(⟨"SecondNearestModel", "outs", "()I"⟩, 56), (⟨"SecondNearestModel", "laysBack", "()V"⟩, 56), (⟨"SecondNearestModel", "areSame", "(II)Z"⟩, 56), (⟨"SecondNearestModel", "file", "(I)I"⟩, 56), (⟨"SecondNearestModel", "isInRing", "(I)Z"⟩, 56), (⟨"SecondNearestModel", "unlike", "(III)I"⟩, 56), (⟨"SecondNearestModel", "outsIn", "(II)I"⟩, 56), (⟨"SecondNearestModel", "outsBy", "(IIII)I"⟩, 56), (⟨"SecondNearestModel", "leadsHere", "(II)Z"⟩, 56), (⟨"SecondNearestModel", "mayStand", "(I)Z"⟩, 56), (⟨"SecondNearestModel", "carriesAll", "(IZ)V"⟩, 56), (⟨"SecondNearestModel", "carry", "([I)V"⟩, 56)]
theorem lw_r6 : ∀ q ∈ lw_privs_6, lw_okq q := List.forall_mem_cons.mpr ⟨lw_p80, List.forall_mem_cons.mpr ⟨lw_p81, List.forall_mem_cons.mpr ⟨lw_p82, List.forall_mem_cons.mpr ⟨lw_p83, List.forall_mem_cons.mpr ⟨lw_p84, List.forall_mem_cons.mpr ⟨lw_p85, List.forall_mem_cons.mpr ⟨lw_p86, List.forall_mem_cons.mpr ⟨lw_p87, List.forall_mem_cons.mpr ⟨lw_p88, List.forall_mem_cons.mpr ⟨lw_p89, List.forall_mem_cons.mpr ⟨lw_p90, List.forall_mem_cons.mpr ⟨lw_p91, fun _ h => absurd h List.not_mem_nil⟩⟩⟩⟩⟩⟩⟩⟩⟩⟩⟩⟩
def lw_privs : List (MethodName × Nat) := lw_privs_1 ++ (lw_privs_2 ++ (lw_privs_3 ++ (lw_privs_4 ++ (lw_privs_5 ++ (lw_privs_6)))))
def lw_tbl : List Cond := k2_sels lw_privs ++ tables_1
theorem lw_privs_ok : ∀ q ∈ lw_privs, lw_okq q := by
  show ∀ q ∈ lw_privs_1 ++ (lw_privs_2 ++ (lw_privs_3 ++ (lw_privs_4 ++ (lw_privs_5 ++ (lw_privs_6))))), lw_okq q
  exact List.forall_mem_append.mpr ⟨lw_r1, List.forall_mem_append.mpr ⟨lw_r2, List.forall_mem_append.mpr ⟨lw_r3, List.forall_mem_append.mpr ⟨lw_r4, List.forall_mem_append.mpr ⟨lw_r5, lw_r6⟩⟩⟩⟩⟩
def RX0 : String := "SecondNearest$Ground"
def TX0 : u_T := fun k => match k with
  | 0 => ("SecondNearest$Ground", "toGate", "[I", true)
  | 1 => ("SecondNearest$Ground", "queue", "[I", true)
  | 2 => ("SecondNearest$Ground", "known", "[J", true)
  | _ => ("SecondNearest$Ground", "clear", "[J", true)
def tyX0 : Nat → FieldType := fun k => match k with
  | 0 => .array .int
  | 1 => .array .int
  | 2 => .array .long
  | _ => .array .long
theorem nmX0 : ∀ a, a < 4 → ∀ b, b < 4 → a ≠ b → (TX0 a).2.1 ≠ (TX0 b).2.1 := by decide +kernel
theorem tyX0_ok : ∀ k, k < 4 → parseFieldDescriptor (TX0 k).2.2.1 = some (tyX0 k) := by decide +kernel
abbrev cX0_init : ByteArray := prog_2_method_1_code
def yX0_init : MethodName := ⟨RX0, "<init>", "()V"⟩
abbrev cX0_survey : ByteArray := prog_2_method_2_code
def yX0_survey : MethodName := ⟨RX0, "survey", "(LSecondNearest$Scene;)V"⟩
abbrev cX0_isClear : ByteArray := prog_2_method_3_code
def yX0_isClear : MethodName := ⟨RX0, "isClear", "([BII)Z"⟩
def RX1 : String := "SecondNearest$Law"
def TX1 : u_T := fun k => match k with
  | 0 => ("SecondNearest$Law", "clauses", "I", false)
  | 1 => ("SecondNearest$Law", "places", "[I", true)
  | 2 => ("SecondNearest$Law", "testEnds", "[I", true)
  | 3 => ("SecondNearest$Law", "length", "I", false)
  | _ => ("SecondNearest$Law", "code", "[I", true)
def tyX1 : Nat → FieldType := fun k => match k with
  | 0 => .int
  | 1 => .array .int
  | 2 => .array .int
  | 3 => .int
  | _ => .array .int
theorem nmX1 : ∀ a, a < 5 → ∀ b, b < 5 → a ≠ b → (TX1 a).2.1 ≠ (TX1 b).2.1 := by decide +kernel
theorem tyX1_ok : ∀ k, k < 5 → parseFieldDescriptor (TX1 k).2.2.1 = some (tyX1 k) := by decide +kernel
abbrev cX1_init : ByteArray := prog_3_method_1_code
def yX1_init : MethodName := ⟨RX1, "<init>", "()V"⟩
abbrev cX1_wipe : ByteArray := prog_3_method_2_code
def yX1_wipe : MethodName := ⟨RX1, "wipe", "()V"⟩
abbrev cX1_emit : ByteArray := prog_3_method_3_code
def yX1_emit : MethodName := ⟨RX1, "emit", "(I)V"⟩
abbrev cX1_closeClause : ByteArray := prog_3_method_4_code
def yX1_closeClause : MethodName := ⟨RX1, "closeClause", "(I)V"⟩
def RX2 : String := "SecondNearest$LawReader"
def TX2 : u_T := fun k => match k with
  | 0 => ("SecondNearest$LawReader", "tape", "LSecondNearest$Tape;", true)
  | 1 => ("SecondNearest$LawReader", "law", "LSecondNearest$Law;", false)
  | _ => ("SecondNearest$LawReader", "size", "I", false)
def tyX2 : Nat → FieldType := fun k => match k with
  | 0 => .object "SecondNearest$Tape"
  | 1 => .object "SecondNearest$Law"
  | _ => .int
theorem nmX2 : ∀ a, a < 3 → ∀ b, b < 3 → a ≠ b → (TX2 a).2.1 ≠ (TX2 b).2.1 := by decide +kernel
theorem tyX2_ok : ∀ k, k < 3 → parseFieldDescriptor (TX2 k).2.2.1 = some (tyX2 k) := by decide +kernel
abbrev cX2_init : ByteArray := prog_4_method_1_code
def yX2_init : MethodName := ⟨RX2, "<init>", "(LSecondNearest$Tape;)V"⟩
abbrev cX2_read : ByteArray := prog_4_method_2_code
def yX2_read : MethodName := ⟨RX2, "read", "(LSecondNearest$Law;)I"⟩
abbrev cX2_takeClause : ByteArray := prog_4_method_3_code
def yX2_takeClause : MethodName := ⟨RX2, "takeClause", "()Z"⟩
abbrev cX2_takeTest : ByteArray := prog_4_method_4_code
def yX2_takeTest : MethodName := ⟨RX2, "takeTest", "(I)Z"⟩
abbrev cX2_takeFact : ByteArray := prog_4_method_5_code
def yX2_takeFact : MethodName := ⟨RX2, "takeFact", "(I)Z"⟩
abbrev cX2_takeComparing : ByteArray := prog_4_method_6_code
def yX2_takeComparing : MethodName := ⟨RX2, "takeComparing", "()I"⟩
abbrev cX2_takeSum : ByteArray := prog_4_method_7_code
def yX2_takeSum : MethodName := ⟨RX2, "takeSum", "()Z"⟩
abbrev cX2_takeWorking : ByteArray := prog_4_method_8_code
def yX2_takeWorking : MethodName := ⟨RX2, "takeWorking", "()I"⟩
abbrev cX2_workingOf : ByteArray := prog_4_method_9_code
def yX2_workingOf : MethodName := ⟨RX2, "workingOf", "(I)I"⟩
abbrev cX2_takeValue : ByteArray := prog_4_method_10_code
def yX2_takeValue : MethodName := ⟨RX2, "takeValue", "()Z"⟩
abbrev cX2_grow : ByteArray := prog_4_method_11_code
def yX2_grow : MethodName := ⟨RX2, "grow", "(I)Z"⟩
def RX3 : String := "SecondNearest$PlainReader"
def TX3 : u_T := fun k => match k with
  | 0 => ("SecondNearest$PlainReader", "tape", "LSecondNearest$Tape;", true)
  | _ => ("SecondNearest$PlainReader", "scene", "LSecondNearest$Scene;", true)
def tyX3 : Nat → FieldType := fun k => match k with
  | 0 => .object "SecondNearest$Tape"
  | _ => .object "SecondNearest$Scene"
theorem nmX3 : ∀ a, a < 2 → ∀ b, b < 2 → a ≠ b → (TX3 a).2.1 ≠ (TX3 b).2.1 := by decide +kernel
theorem tyX3_ok : ∀ k, k < 2 → parseFieldDescriptor (TX3 k).2.2.1 = some (tyX3 k) := by decide +kernel
abbrev cX3_init : ByteArray := prog_5_method_1_code
def yX3_init : MethodName := ⟨RX3, "<init>", "(LSecondNearest$Tape;LSecondNearest$Scene;)V"⟩
abbrev cX3_read : ByteArray := prog_5_method_2_code
def yX3_read : MethodName := ⟨RX3, "read", "()I"⟩
abbrev cX3_takeClause : ByteArray := prog_5_method_3_code
def yX3_takeClause : MethodName := ⟨RX3, "takeClause", "()Z"⟩
abbrev cX3_takeRow : ByteArray := prog_5_method_4_code
def yX3_takeRow : MethodName := ⟨RX3, "takeRow", "(I)Z"⟩
abbrev cX3_takePerson : ByteArray := prog_5_method_5_code
def yX3_takePerson : MethodName := ⟨RX3, "takePerson", "(I)Z"⟩
abbrev cX3_takeHerald : ByteArray := prog_5_method_6_code
def yX3_takeHerald : MethodName := ⟨RX3, "takeHerald", "(I)Z"⟩
abbrev cX3_takePlace : ByteArray := prog_5_method_7_code
def yX3_takePlace : MethodName := ⟨RX3, "takePlace", "()I"⟩
abbrev cX3_kindOf : ByteArray := prog_5_method_8_code
def yX3_kindOf : MethodName := ⟨RX3, "kindOf", "(I)I"⟩
def RX4 : String := "SecondNearest$Planner"
def TX4 : u_T := fun k => match k with
  | 0 => ("SecondNearest$Planner", "now", "LSecondNearest$Scene;", true)
  | 1 => ("SecondNearest$Planner", "walker", "LSecondNearest$Walker;", true)
  | 2 => ("SecondNearest$Planner", "ground", "LSecondNearest$Ground;", true)
  | 3 => ("SecondNearest$Planner", "trial", "LSecondNearest$Scene;", true)
  | 4 => ("SecondNearest$Planner", "usual", "LSecondNearest$Scene;", true)
  | 5 => ("SecondNearest$Planner", "firstEight", "[J", true)
  | 6 => ("SecondNearest$Planner", "others", "[J", true)
  | _ => ("SecondNearest$Planner", "there", "[I", true)
def tyX4 : Nat → FieldType := fun k => match k with
  | 0 => .object "SecondNearest$Scene"
  | 1 => .object "SecondNearest$Walker"
  | 2 => .object "SecondNearest$Ground"
  | 3 => .object "SecondNearest$Scene"
  | 4 => .object "SecondNearest$Scene"
  | 5 => .array .long
  | 6 => .array .long
  | _ => .array .int
theorem nmX4 : ∀ a, a < 8 → ∀ b, b < 8 → a ≠ b → (TX4 a).2.1 ≠ (TX4 b).2.1 := by decide +kernel
theorem tyX4_ok : ∀ k, k < 8 → parseFieldDescriptor (TX4 k).2.2.1 = some (tyX4 k) := by decide +kernel
abbrev cX4_init : ByteArray := prog_6_method_1_code
def yX4_init : MethodName := ⟨RX4, "<init>", "(LSecondNearest$Scene;LSecondNearest$Walker;LSecondNearest$Ground;)V"⟩
abbrev cX4_foresee : ByteArray := prog_6_method_2_code
def yX4_foresee : MethodName := ⟨RX4, "foresee", "(LSecondNearest$Law;II)I"⟩
abbrev cX4_findRound : ByteArray := prog_6_method_3_code
def yX4_findRound : MethodName := ⟨RX4, "findRound", "(LSecondNearest$Law;I)I"⟩
abbrev cX4_keepSituation : ByteArray := prog_6_method_4_code
def yX4_keepSituation : MethodName := ⟨RX4, "keepSituation", "(I)V"⟩
abbrev cX4_findBefore : ByteArray := prog_6_method_5_code
def yX4_findBefore : MethodName := ⟨RX4, "findBefore", "(I)I"⟩
abbrev cX4_longestFile : ByteArray := prog_6_method_6_code
def yX4_longestFile : MethodName := ⟨RX4, "longestFile", "()I"⟩
abbrev cX4_findRings : ByteArray := prog_6_method_7_code
def yX4_findRings : MethodName := ⟨RX4, "findRings", "(Z)I"⟩
abbrev cX4_ringFrom : ByteArray := prog_6_method_8_code
def yX4_ringFrom : MethodName := ⟨RX4, "ringFrom", "(I)I"⟩
abbrev cX4_missedBy : ByteArray := prog_6_method_9_code
def yX4_missedBy : MethodName := ⟨RX4, "missedBy", "(LSecondNearest$Law;II)I"⟩
abbrev cX4_findLeader : ByteArray := prog_6_method_10_code
def yX4_findLeader : MethodName := ⟨RX4, "findLeader", "(LSecondNearest$Law;II)I"⟩
abbrev cX4_walkUsually : ByteArray := prog_6_method_11_code
def yX4_walkUsually : MethodName := ⟨RX4, "walkUsually", "(LSecondNearest$Law;I)V"⟩
abbrev cX4_countElsewhere : ByteArray := prog_6_method_12_code
def yX4_countElsewhere : MethodName := ⟨RX4, "countElsewhere", "(LSecondNearest$Law;II)I"⟩
abbrev cX4_boundOfOut : ByteArray := prog_6_method_13_code
def yX4_boundOfOut : MethodName := ⟨RX4, "boundOfOut", "(I)I"⟩
abbrev cX4_findPost : ByteArray := prog_6_method_14_code
def yX4_findPost : MethodName := ⟨RX4, "findPost", "(LSecondNearest$Law;II)I"⟩
abbrev cX4_findCourse : ByteArray := prog_6_method_15_code
def yX4_findCourse : MethodName := ⟨RX4, "findCourse", "(LSecondNearest$Law;III)I"⟩
abbrev cX4_tryCourse : ByteArray := prog_6_method_16_code
def yX4_tryCourse : MethodName := ⟨RX4, "tryCourse", "(LSecondNearest$Law;III)I"⟩
abbrev cX4_choiceOf : ByteArray := prog_6_method_17_code
def yX4_choiceOf : MethodName := ⟨RX4, "choiceOf", "(III)I"⟩
abbrev cX4_findWall : ByteArray := prog_6_method_18_code
def yX4_findWall : MethodName := ⟨RX4, "findWall", "(LSecondNearest$Law;I)I"⟩
abbrev cX4_countAgo : ByteArray := prog_6_method_19_code
def yX4_countAgo : MethodName := ⟨RX4, "countAgo", "(LSecondNearest$Law;)I"⟩
abbrev cX4_arrange : ByteArray := prog_6_method_20_code
def yX4_arrange : MethodName := ⟨RX4, "arrange", "(II)Z"⟩
abbrev cX4_leadsHere : ByteArray := prog_6_method_21_code
def yX4_leadsHere : MethodName := ⟨RX4, "leadsHere", "(LSecondNearest$Law;I)Z"⟩
abbrev cX4_judge : ByteArray := prog_6_method_22_code
def yX4_judge : MethodName := ⟨RX4, "judge", "(LSecondNearest$Law;)I"⟩
abbrev cX4_isFollowing : ByteArray := prog_6_method_23_code
def yX4_isFollowing : MethodName := ⟨RX4, "isFollowing", "(II)Z"⟩
def RX5 : String := "SecondNearest$Scene"
def TX5 : u_T := fun k => match k with
  | 0 => ("SecondNearest$Scene", "columns", "I", false)
  | 1 => ("SecondNearest$Scene", "rows", "I", false)
  | 2 => ("SecondNearest$Scene", "gates", "I", false)
  | 3 => ("SecondNearest$Scene", "people", "I", false)
  | 4 => ("SecondNearest$Scene", "heralds", "I", false)
  | 5 => ("SecondNearest$Scene", "steps", "I", false)
  | 6 => ("SecondNearest$Scene", "outCount", "I", false)
  | 7 => ("SecondNearest$Scene", "spoors", "I", false)
  | 8 => ("SecondNearest$Scene", "kinds", "[B", true)
  | 9 => ("SecondNearest$Scene", "standing", "[B", true)
  | 10 => ("SecondNearest$Scene", "at", "[I", true)
  | 11 => ("SecondNearest$Scene", "age", "[I", true)
  | 12 => ("SecondNearest$Scene", "sort", "[I", true)
  | 13 => ("SecondNearest$Scene", "out", "[I", true)
  | 14 => ("SecondNearest$Scene", "spoorStep", "[I", true)
  | 15 => ("SecondNearest$Scene", "spoorPerson", "[I", true)
  | _ => ("SecondNearest$Scene", "spoorOther", "[I", true)
def tyX5 : Nat → FieldType := fun k => match k with
  | 0 => .int
  | 1 => .int
  | 2 => .int
  | 3 => .int
  | 4 => .int
  | 5 => .int
  | 6 => .int
  | 7 => .int
  | 8 => .array .byte
  | 9 => .array .byte
  | 10 => .array .int
  | 11 => .array .int
  | 12 => .array .int
  | 13 => .array .int
  | 14 => .array .int
  | 15 => .array .int
  | _ => .array .int
theorem nmX5 : ∀ a, a < 17 → ∀ b, b < 17 → a ≠ b → (TX5 a).2.1 ≠ (TX5 b).2.1 := by decide +kernel
theorem tyX5_ok : ∀ k, k < 17 → parseFieldDescriptor (TX5 k).2.2.1 = some (tyX5 k) := by decide +kernel
abbrev cX5_init : ByteArray := prog_7_method_1_code
def yX5_init : MethodName := ⟨RX5, "<init>", "()V"⟩
abbrev cX5_wipe : ByteArray := prog_7_method_2_code
def yX5_wipe : MethodName := ⟨RX5, "wipe", "()V"⟩
abbrev cX5_copyAll : ByteArray := prog_7_method_3_code
def yX5_copyAll : MethodName := ⟨RX5, "copyAll", "(LSecondNearest$Scene;)V"⟩
abbrev cX5_copyPlaces : ByteArray := prog_7_method_4_code
def yX5_copyPlaces : MethodName := ⟨RX5, "copyPlaces", "(LSecondNearest$Scene;)V"⟩
abbrev cX5_isPerson : ByteArray := prog_7_method_5_code
def yX5_isPerson : MethodName := ⟨RX5, "isPerson", "(I)Z"⟩
abbrev cX5_isHerald : ByteArray := prog_7_method_6_code
def yX5_isHerald : MethodName := ⟨RX5, "isHerald", "(I)Z"⟩
abbrev cX5_isAnybody : ByteArray := prog_7_method_7_code
def yX5_isAnybody : MethodName := ⟨RX5, "isAnybody", "(I)Z"⟩
abbrev cX5_isCell : ByteArray := prog_7_method_8_code
def yX5_isCell : MethodName := ⟨RX5, "isCell", "(II)Z"⟩
abbrev cX5_isFree : ByteArray := prog_7_method_9_code
def yX5_isFree : MethodName := ⟨RX5, "isFree", "(II)Z"⟩
abbrev cX5_beside : ByteArray := prog_7_method_10_code
def yX5_beside : MethodName := ⟨RX5, "beside", "(II)I"⟩
abbrev cX5_lift : ByteArray := prog_7_method_11_code
def yX5_lift : MethodName := ⟨RX5, "lift", "(I)V"⟩
abbrev cX5_put : ByteArray := prog_7_method_12_code
def yX5_put : MethodName := ⟨RX5, "put", "(II)V"⟩
abbrev cX5_goBy : ByteArray := prog_7_method_13_code
def yX5_goBy : MethodName := ⟨RX5, "goBy", "(II)Z"⟩
abbrev cX5_addSpoor : ByteArray := prog_7_method_14_code
def yX5_addSpoor : MethodName := ⟨RX5, "addSpoor", "(III)V"⟩
abbrev cX5_isGround : ByteArray := prog_7_method_15_code
def yX5_isGround : MethodName := ⟨RX5, "isGround", "(I)Z"⟩
def RX6 : String := "SecondNearest$Tape"
def TX6 : u_T := fun k => match k with
  | 0 => ("SecondNearest$Tape", "bytes", "[B", true)
  | 1 => ("SecondNearest$Tape", "length", "I", false)
  | 2 => ("SecondNearest$Tape", "place", "I", false)
  | _ => ("SecondNearest$Tape", "fault", "I", false)
def tyX6 : Nat → FieldType := fun k => match k with
  | 0 => .array .byte
  | 1 => .int
  | 2 => .int
  | _ => .int
theorem nmX6 : ∀ a, a < 4 → ∀ b, b < 4 → a ≠ b → (TX6 a).2.1 ≠ (TX6 b).2.1 := by decide +kernel
theorem tyX6_ok : ∀ k, k < 4 → parseFieldDescriptor (TX6 k).2.2.1 = some (tyX6 k) := by decide +kernel
abbrev cX6_init : ByteArray := prog_8_method_1_code
def yX6_init : MethodName := ⟨RX6, "<init>", "()V"⟩
abbrev cX6_hasRoom : ByteArray := prog_8_method_2_code
def yX6_hasRoom : MethodName := ⟨RX6, "hasRoom", "(I)Z"⟩
abbrev cX6_add : ByteArray := prog_8_method_3_code
def yX6_add : MethodName := ⟨RX6, "add", "(I)V"⟩
abbrev cX6_rewind : ByteArray := prog_8_method_4_code
def yX6_rewind : MethodName := ⟨RX6, "rewind", "()V"⟩
abbrev cX6_here : ByteArray := prog_8_method_5_code
def yX6_here : MethodName := ⟨RX6, "here", "()I"⟩
abbrev cX6_skip : ByteArray := prog_8_method_6_code
def yX6_skip : MethodName := ⟨RX6, "skip", "()I"⟩
abbrev cX6_blame : ByteArray := prog_8_method_7_code
def yX6_blame : MethodName := ⟨RX6, "blame", "(II)Z"⟩
abbrev cX6_take : ByteArray := prog_8_method_8_code
def yX6_take : MethodName := ⟨RX6, "take", "(C)Z"⟩
abbrev cX6_takeWord : ByteArray := prog_8_method_9_code
def yX6_takeWord : MethodName := ⟨RX6, "takeWord", "(Ljava/lang/String;)I"⟩
abbrev cX6_onDigit : ByteArray := prog_8_method_10_code
def yX6_onDigit : MethodName := ⟨RX6, "onDigit", "()Z"⟩
abbrev cX6_takeNumber : ByteArray := prog_8_method_11_code
def yX6_takeNumber : MethodName := ⟨RX6, "takeNumber", "(II)I"⟩
abbrev cX6_isRead : ByteArray := prog_8_method_12_code
def yX6_isRead : MethodName := ⟨RX6, "isRead", "()Z"⟩
def RX7 : String := "SecondNearest$Walker"
def TX7 : u_T := fun k => match k with
  | 0 => ("SecondNearest$Walker", "ground", "LSecondNearest$Ground;", true)
  | 1 => ("SecondNearest$Walker", "stack", "[J", true)
  | 2 => ("SecondNearest$Walker", "order", "[I", true)
  | 3 => ("SecondNearest$Walker", "sighted", "I", false)
  | 4 => ("SecondNearest$Walker", "beside", "I", false)
  | 5 => ("SecondNearest$Walker", "elder", "Z", false)
  | 6 => ("SecondNearest$Walker", "followed", "[I", true)
  | _ => ("SecondNearest$Walker", "went", "I", false)
def tyX7 : Nat → FieldType := fun k => match k with
  | 0 => .object "SecondNearest$Ground"
  | 1 => .array .long
  | 2 => .array .int
  | 3 => .int
  | 4 => .int
  | 5 => .boolean
  | 6 => .array .int
  | _ => .int
theorem nmX7 : ∀ a, a < 8 → ∀ b, b < 8 → a ≠ b → (TX7 a).2.1 ≠ (TX7 b).2.1 := by decide +kernel
theorem tyX7_ok : ∀ k, k < 8 → parseFieldDescriptor (TX7 k).2.2.1 = some (tyX7 k) := by decide +kernel
abbrev cX7_init : ByteArray := prog_9_method_1_code
def yX7_init : MethodName := ⟨RX7, "<init>", "(LSecondNearest$Ground;)V"⟩
abbrev cX7_walk : ByteArray := prog_9_method_2_code
def yX7_walk : MethodName := ⟨RX7, "walk", "(LSecondNearest$Scene;LSecondNearest$Law;I)V"⟩
abbrev cX7_step : ByteArray := prog_9_method_3_code
def yX7_step : MethodName := ⟨RX7, "step", "(LSecondNearest$Scene;LSecondNearest$Law;)Z"⟩
abbrev cX7_askAll : ByteArray := prog_9_method_4_code
def yX7_askAll : MethodName := ⟨RX7, "askAll", "(LSecondNearest$Scene;LSecondNearest$Law;)V"⟩
abbrev cX7_look : ByteArray := prog_9_method_5_code
def yX7_look : MethodName := ⟨RX7, "look", "(LSecondNearest$Scene;I)V"⟩
abbrev cX7_insert : ByteArray := prog_9_method_6_code
def yX7_insert : MethodName := ⟨RX7, "insert", "(I)V"⟩
abbrev cX7_sightedAt : ByteArray := prog_9_method_7_code
def yX7_sightedAt : MethodName := ⟨RX7, "sightedAt", "(I)I"⟩
abbrev cX7_choose : ByteArray := prog_9_method_8_code
def yX7_choose : MethodName := ⟨RX7, "choose", "(LSecondNearest$Scene;LSecondNearest$Law;I)I"⟩
abbrev cX7_holds : ByteArray := prog_9_method_9_code
def yX7_holds : MethodName := ⟨RX7, "holds", "(LSecondNearest$Scene;[IIII)Z"⟩
abbrev cX7_work : ByteArray := prog_9_method_10_code
def yX7_work : MethodName := ⟨RX7, "work", "(IJJ)J"⟩
abbrev cX7_valueOf : ByteArray := prog_9_method_11_code
def yX7_valueOf : MethodName := ⟨RX7, "valueOf", "(LSecondNearest$Scene;II)J"⟩
abbrev cX7_approach : ByteArray := prog_9_method_12_code
def yX7_approach : MethodName := ⟨RX7, "approach", "(LSecondNearest$Scene;II)Z"⟩
abbrev cX7_leaveByGate : ByteArray := prog_9_method_13_code
def yX7_leaveByGate : MethodName := ⟨RX7, "leaveByGate", "(LSecondNearest$Scene;I)V"⟩
abbrev cX7_distance : ByteArray := prog_9_method_14_code
def yX7_distance : MethodName := ⟨RX7, "distance", "(II)I"⟩
def RX8 : String := "SecondNearest"
def TX8 : u_T := fun k => match k with
  | 0 => ("SecondNearest", "tape", "LSecondNearest$Tape;", true)
  | 1 => ("SecondNearest", "now", "LSecondNearest$Scene;", true)
  | 2 => ("SecondNearest", "draft", "LSecondNearest$Scene;", true)
  | 3 => ("SecondNearest", "plainReader", "LSecondNearest$PlainReader;", true)
  | 4 => ("SecondNearest", "lawReader", "LSecondNearest$LawReader;", true)
  | 5 => ("SecondNearest", "laws", "[LSecondNearest$Law;", true)
  | 6 => ("SecondNearest", "lawCount", "I", false)
  | 7 => ("SecondNearest", "ground", "LSecondNearest$Ground;", true)
  | 8 => ("SecondNearest", "walker", "LSecondNearest$Walker;", true)
  | 9 => ("SecondNearest", "planner", "LSecondNearest$Planner;", true)
  | 10 => ("SecondNearest", "images", "[LSecondNearest$Scene;", true)
  | _ => ("SecondNearest", "made", "[Z", true)
def tyX8 : Nat → FieldType := fun k => match k with
  | 0 => .object "SecondNearest$Tape"
  | 1 => .object "SecondNearest$Scene"
  | 2 => .object "SecondNearest$Scene"
  | 3 => .object "SecondNearest$PlainReader"
  | 4 => .object "SecondNearest$LawReader"
  | 5 => .array (.object "SecondNearest$Law")
  | 6 => .int
  | 7 => .object "SecondNearest$Ground"
  | 8 => .object "SecondNearest$Walker"
  | 9 => .object "SecondNearest$Planner"
  | 10 => .array (.object "SecondNearest$Scene")
  | _ => .array .boolean
theorem nmX8 : ∀ a, a < 12 → ∀ b, b < 12 → a ≠ b → (TX8 a).2.1 ≠ (TX8 b).2.1 := by decide +kernel
theorem tyX8_ok : ∀ k, k < 12 → parseFieldDescriptor (TX8 k).2.2.1 = some (tyX8 k) := by decide +kernel
abbrev cX8_init : ByteArray := prog_1_method_1_code
def yX8_init : MethodName := ⟨RX8, "<init>", "()V"⟩
abbrev cX8_feed : ByteArray := prog_1_method_2_code
def yX8_feed : MethodName := ⟨RX8, "feed", "(IIIII)I"⟩
abbrev cX8_end : ByteArray := prog_1_method_3_code
def yX8_end : MethodName := ⟨RX8, "end", "(I)I"⟩
abbrev cX8_plain : ByteArray := prog_1_method_4_code
def yX8_plain : MethodName := ⟨RX8, "plain", "()I"⟩
abbrev cX8_law : ByteArray := prog_1_method_5_code
def yX8_law : MethodName := ⟨RX8, "law", "()I"⟩
abbrev cX8_person : ByteArray := prog_1_method_6_code
def yX8_person : MethodName := ⟨RX8, "person", "(II)I"⟩
abbrev cX8_herald : ByteArray := prog_1_method_7_code
def yX8_herald : MethodName := ⟨RX8, "herald", "(II)I"⟩
abbrev cX8_cell : ByteArray := prog_1_method_8_code
def yX8_cell : MethodName := ⟨RX8, "cell", "(III)I"⟩
abbrev cX8_sees : ByteArray := prog_1_method_9_code
def yX8_sees : MethodName := ⟨RX8, "sees", "(I)I"⟩
abbrev cX8_seen : ByteArray := prog_1_method_10_code
def yX8_seen : MethodName := ⟨RX8, "seen", "(II)I"⟩
abbrev cX8_goes : ByteArray := prog_1_method_11_code
def yX8_goes : MethodName := ⟨RX8, "goes", "(II)Z"⟩
abbrev cX8_tick : ByteArray := prog_1_method_12_code
def yX8_tick : MethodName := ⟨RX8, "tick", "(II)I"⟩
abbrev cX8_follows : ByteArray := prog_1_method_13_code
def yX8_follows : MethodName := ⟨RX8, "follows", "(II)I"⟩
abbrev cX8_ahead : ByteArray := prog_1_method_14_code
def yX8_ahead : MethodName := ⟨RX8, "ahead", "(III)I"⟩
abbrev cX8_round : ByteArray := prog_1_method_15_code
def yX8_round : MethodName := ⟨RX8, "round", "(II)I"⟩
abbrev cX8_files : ByteArray := prog_1_method_16_code
def yX8_files : MethodName := ⟨RX8, "files", "(II)I"⟩
abbrev cX8_without : ByteArray := prog_1_method_17_code
def yX8_without : MethodName := ⟨RX8, "without", "(III)I"⟩
abbrev cX8_leader : ByteArray := prog_1_method_18_code
def yX8_leader : MethodName := ⟨RX8, "leader", "(III)I"⟩
abbrev cX8_post : ByteArray := prog_1_method_19_code
def yX8_post : MethodName := ⟨RX8, "post", "(III)I"⟩
abbrev cX8_lead : ByteArray := prog_1_method_20_code
def yX8_lead : MethodName := ⟨RX8, "lead", "(IIII)I"⟩
abbrev cX8_wall : ByteArray := prog_1_method_21_code
def yX8_wall : MethodName := ⟨RX8, "wall", "(II)I"⟩
abbrev cX8_ago : ByteArray := prog_1_method_22_code
def yX8_ago : MethodName := ⟨RX8, "ago", "(I)I"⟩
abbrev cX8_spoor : ByteArray := prog_1_method_23_code
def yX8_spoor : MethodName := ⟨RX8, "spoor", "(III)I"⟩
abbrev cX8_judged : ByteArray := prog_1_method_24_code
def yX8_judged : MethodName := ⟨RX8, "judged", "(I)I"⟩
abbrev cX8_bestLaw : ByteArray := prog_1_method_25_code
def yX8_bestLaw : MethodName := ⟨RX8, "bestLaw", "(I)I"⟩
abbrev cX8_count : ByteArray := prog_1_method_26_code
def yX8_count : MethodName := ⟨RX8, "count", "(I)I"⟩
abbrev cX8_image : ByteArray := prog_1_method_27_code
def yX8_image : MethodName := ⟨RX8, "image", "(I)I"⟩
abbrev cX8_back : ByteArray := prog_1_method_28_code
def yX8_back : MethodName := ⟨RX8, "back", "(I)I"⟩
abbrev cX8_canWalk : ByteArray := prog_1_method_29_code
def yX8_canWalk : MethodName := ⟨RX8, "canWalk", "(I)Z"⟩
def RX9 : String := "SecondNearestModel"
def TX9 : u_T := fun k => match k with
  | 0 => ("SecondNearestModel", "thrown", "I", false)
  | 1 => ("SecondNearestModel", "scalar", "[I", true)
  | 2 => ("SecondNearestModel", "kind", "[I", true)
  | 3 => ("SecondNearestModel", "age", "[I", true)
  | 4 => ("SecondNearestModel", "sortOf", "[I", true)
  | 5 => ("SecondNearestModel", "newScalar", "[I", true)
  | 6 => ("SecondNearestModel", "newKind", "[I", true)
  | 7 => ("SecondNearestModel", "newAge", "[I", true)
  | 8 => ("SecondNearestModel", "newSort", "[I", true)
  | 9 => ("SecondNearestModel", "newPlace", "[I", true)
  | 10 => ("SecondNearestModel", "place", "[I", true)
  | 11 => ("SecondNearestModel", "outAt", "[I", true)
  | 12 => ("SecondNearestModel", "spoorStep", "[I", true)
  | 13 => ("SecondNearestModel", "spoorWho", "[I", true)
  | 14 => ("SecondNearestModel", "spoorOther", "[I", true)
  | 15 => ("SecondNearestModel", "gateFar", "[I", true)
  | 16 => ("SecondNearestModel", "row", "[I", true)
  | 17 => ("SecondNearestModel", "seen", "[I", true)
  | 18 => ("SecondNearestModel", "manySeen", "I", false)
  | 19 => ("SecondNearestModel", "taped", "I", false)
  | 20 => ("SecondNearestModel", "p", "I", false)
  | 21 => ("SecondNearestModel", "fault", "I", false)
  | 22 => ("SecondNearestModel", "slot", "I", false)
  | 23 => ("SecondNearestModel", "laws", "I", false)
  | 24 => ("SecondNearestModel", "entries", "I", false)
  | 25 => ("SecondNearestModel", "deep", "I", false)
  | 26 => ("SecondNearestModel", "counted", "I", false)
  | 27 => ("SecondNearestModel", "opened", "I", false)
  | 28 => ("SecondNearestModel", "words", "I", false)
  | 29 => ("SecondNearestModel", "tape", "[B", true)
  | 30 => ("SecondNearestModel", "sort", "[I", true)
  | 31 => ("SecondNearestModel", "number", "[I", true)
  | 32 => ("SecondNearestModel", "clauses", "[I", true)
  | 33 => ("SecondNearestModel", "followed", "[I", true)
  | 34 => ("SecondNearestModel", "testAt", "[I", true)
  | 35 => ("SecondNearestModel", "endAt", "[I", true)
  | 36 => ("SecondNearestModel", "open", "[I", true)
  | 37 => ("SecondNearestModel", "asked", "[J", true)
  | 38 => ("SecondNearestModel", "stack", "[J", true)
  | 39 => ("SecondNearestModel", "lastFollowed", "[I", true)
  | 40 => ("SecondNearestModel", "went", "I", false)
  | 41 => ("SecondNearestModel", "keptScalar", "[I", true)
  | 42 => ("SecondNearestModel", "keptPlace", "[I", true)
  | 43 => ("SecondNearestModel", "keptOut", "[I", true)
  | 44 => ("SecondNearestModel", "stood0", "[I", true)
  | 45 => ("SecondNearestModel", "target", "[I", true)
  | 46 => ("SecondNearestModel", "withHim", "[I", true)
  | 47 => ("SecondNearestModel", "keptLead", "[I", true)
  | 48 => ("SecondNearestModel", "leadPlace", "[I", true)
  | 49 => ("SecondNearestModel", "leadOut", "[I", true)
  | 50 => ("SecondNearestModel", "there", "[I", true)
  | 51 => ("SecondNearestModel", "goal", "[I", true)
  | 52 => ("SecondNearestModel", "images", "[I", true)
  | 53 => ("SecondNearestModel", "isMade", "[Z", true)
  | 54 => ("SecondNearestModel", "imageAt", "I", false)
  | _ => ("SecondNearestModel", "comesBack", "Z", false)
def tyX9 : Nat → FieldType := fun k => match k with
  | 0 => .int
  | 1 => .array .int
  | 2 => .array .int
  | 3 => .array .int
  | 4 => .array .int
  | 5 => .array .int
  | 6 => .array .int
  | 7 => .array .int
  | 8 => .array .int
  | 9 => .array .int
  | 10 => .array .int
  | 11 => .array .int
  | 12 => .array .int
  | 13 => .array .int
  | 14 => .array .int
  | 15 => .array .int
  | 16 => .array .int
  | 17 => .array .int
  | 18 => .int
  | 19 => .int
  | 20 => .int
  | 21 => .int
  | 22 => .int
  | 23 => .int
  | 24 => .int
  | 25 => .int
  | 26 => .int
  | 27 => .int
  | 28 => .int
  | 29 => .array .byte
  | 30 => .array .int
  | 31 => .array .int
  | 32 => .array .int
  | 33 => .array .int
  | 34 => .array .int
  | 35 => .array .int
  | 36 => .array .int
  | 37 => .array .long
  | 38 => .array .long
  | 39 => .array .int
  | 40 => .int
  | 41 => .array .int
  | 42 => .array .int
  | 43 => .array .int
  | 44 => .array .int
  | 45 => .array .int
  | 46 => .array .int
  | 47 => .array .int
  | 48 => .array .int
  | 49 => .array .int
  | 50 => .array .int
  | 51 => .array .int
  | 52 => .array .int
  | 53 => .array .boolean
  | 54 => .int
  | _ => .boolean
theorem nmX9 : ∀ a, a < 56 → ∀ b, b < 56 → a ≠ b → (TX9 a).2.1 ≠ (TX9 b).2.1 := by decide +kernel
theorem tyX9_ok : ∀ k, k < 56 → parseFieldDescriptor (TX9 k).2.2.1 = some (tyX9 k) := by decide +kernel
abbrev cX9_init : ByteArray := prog_11_method_1_code
def yX9_init : MethodName := ⟨RX9, "<init>", "()V"⟩
abbrev cX9_in : ByteArray := prog_11_method_3_code
def yX9_in : MethodName := ⟨RX9, "in", "(JJJ)Z"⟩
abbrev cX9_without0 : ByteArray := prog_11_method_4_code
def yX9_without0 : MethodName := ⟨RX9, "without0", "(I)I"⟩
abbrev cX9_floor : ByteArray := prog_11_method_5_code
def yX9_floor : MethodName := ⟨RX9, "floor", "(II)I"⟩
abbrev cX9_isPlain : ByteArray := prog_11_method_6_code
def yX9_isPlain : MethodName := ⟨RX9, "isPlain", "()Z"⟩
abbrev cX9_isCell : ByteArray := prog_11_method_7_code
def yX9_isCell : MethodName := ⟨RX9, "isCell", "(II)Z"⟩
abbrev cX9_isThere : ByteArray := prog_11_method_8_code
def yX9_isThere : MethodName := ⟨RX9, "isThere", "(I)Z"⟩
abbrev cX9_isPerson : ByteArray := prog_11_method_9_code
def yX9_isPerson : MethodName := ⟨RX9, "isPerson", "(I)Z"⟩
abbrev cX9_isWho : ByteArray := prog_11_method_10_code
def yX9_isWho : MethodName := ⟨RX9, "isWho", "(I)Z"⟩
abbrev cX9_isFloor : ByteArray := prog_11_method_11_code
def yX9_isFloor : MethodName := ⟨RX9, "isFloor", "(I)Z"⟩
abbrev cX9_whoAt : ByteArray := prog_11_method_12_code
def yX9_whoAt : MethodName := ⟨RX9, "whoAt", "(I)I"⟩
abbrev cX9_isFree : ByteArray := prog_11_method_13_code
def yX9_isFree : MethodName := ⟨RX9, "isFree", "(I)Z"⟩
abbrev cX9_beside : ByteArray := prog_11_method_14_code
def yX9_beside : MethodName := ⟨RX9, "beside", "(II)I"⟩
abbrev cX9_apart : ByteArray := prog_11_method_15_code
def yX9_apart : MethodName := ⟨RX9, "apart", "(II)I"⟩
abbrev cX9_isClear : ByteArray := prog_11_method_16_code
def yX9_isClear : MethodName := ⟨RX9, "isClear", "(II)Z"⟩
abbrev cX9_fillsGates : ByteArray := prog_11_method_17_code
def yX9_fillsGates : MethodName := ⟨RX9, "fillsGates", "()V"⟩
abbrev cX9_isAhead : ByteArray := prog_11_method_18_code
def yX9_isAhead : MethodName := ⟨RX9, "isAhead", "(III)Z"⟩
abbrev cX9_looks : ByteArray := prog_11_method_19_code
def yX9_looks : MethodName := ⟨RX9, "looks", "(I)V"⟩
abbrev cX9_feed : ByteArray := prog_11_method_20_code
def yX9_feed : MethodName := ⟨RX9, "feed", "(IIIII)I"⟩
abbrev cX9_put : ByteArray := prog_11_method_21_code
def yX9_put : MethodName := ⟨RX9, "put", "(I)V"⟩
abbrev cX9_end : ByteArray := prog_11_method_22_code
def yX9_end : MethodName := ⟨RX9, "end", "(I)I"⟩
abbrev cX9_wordOf : ByteArray := prog_11_method_23_code
def yX9_wordOf : MethodName := ⟨RX9, "wordOf", "(I)Ljava/lang/String;"⟩
abbrev cX9_fails : ByteArray := prog_11_method_24_code
def yX9_fails : MethodName := ⟨RX9, "fails", "(II)V"⟩
abbrev cX9_sign : ByteArray := prog_11_method_25_code
def yX9_sign : MethodName := ⟨RX9, "sign", "()I"⟩
abbrev cX9_blanks : ByteArray := prog_11_method_26_code
def yX9_blanks : MethodName := ⟨RX9, "blanks", "()V"⟩
abbrev cX9_isDigit : ByteArray := prog_11_method_27_code
def yX9_isDigit : MethodName := ⟨RX9, "isDigit", "()Z"⟩
abbrev cX9_stood : ByteArray := prog_11_method_28_code
def yX9_stood : MethodName := ⟨RX9, "stood", "(Ljava/lang/String;)Z"⟩
abbrev cX9_takes : ByteArray := prog_11_method_29_code
def yX9_takes : MethodName := ⟨RX9, "takes", "(Ljava/lang/String;)Z"⟩
abbrev cX9_entry : ByteArray := prog_11_method_30_code
def yX9_entry : MethodName := ⟨RX9, "entry", "(II)V"⟩
abbrev cX9_isCounted : ByteArray := prog_11_method_31_code
def yX9_isCounted : MethodName := ⟨RX9, "isCounted", "(I)V"⟩
abbrev cX9_digits : ByteArray := prog_11_method_32_code
def yX9_digits : MethodName := ⟨RX9, "digits", "(I)I"⟩
abbrev cX9_value : ByteArray := prog_11_method_33_code
def yX9_value : MethodName := ⟨RX9, "value", "()V"⟩
abbrev cX9_term : ByteArray := prog_11_method_34_code
def yX9_term : MethodName := ⟨RX9, "term", "()V"⟩
abbrev cX9_sum : ByteArray := prog_11_method_35_code
def yX9_sum : MethodName := ⟨RX9, "sum", "()V"⟩
abbrev cX9_compared : ByteArray := prog_11_method_36_code
def yX9_compared : MethodName := ⟨RX9, "compared", "()V"⟩
abbrev cX9_top : ByteArray := prog_11_method_37_code
def yX9_top : MethodName := ⟨RX9, "top", "()I"⟩
abbrev cX9_opens : ByteArray := prog_11_method_38_code
def yX9_opens : MethodName := ⟨RX9, "opens", "(I)V"⟩
abbrev cX9_answers : ByteArray := prog_11_method_39_code
def yX9_answers : MethodName := ⟨RX9, "answers", "(I)V"⟩
abbrev cX9_fact : ByteArray := prog_11_method_40_code
def yX9_fact : MethodName := ⟨RX9, "fact", "()Z"⟩
abbrev cX9_test : ByteArray := prog_11_method_41_code
def yX9_test : MethodName := ⟨RX9, "test", "()V"⟩
abbrev cX9_amount : ByteArray := prog_11_method_42_code
def yX9_amount : MethodName := ⟨RX9, "amount", "(II)I"⟩
abbrev cX9_signKind : ByteArray := prog_11_method_43_code
def yX9_signKind : MethodName := ⟨RX9, "signKind", "()I"⟩
abbrev cX9_signs : ByteArray := prog_11_method_44_code
def yX9_signs : MethodName := ⟨RX9, "signs", "()V"⟩
abbrev cX9_spot : ByteArray := prog_11_method_45_code
def yX9_spot : MethodName := ⟨RX9, "spot", "()I"⟩
abbrev cX9_isFull : ByteArray := prog_11_method_46_code
def yX9_isFull : MethodName := ⟨RX9, "isFull", "(II)Z"⟩
abbrev cX9_plainClause : ByteArray := prog_11_method_47_code
def yX9_plainClause : MethodName := ⟨RX9, "plainClause", "(I)V"⟩
abbrev cX9_lay : ByteArray := prog_11_method_48_code
def yX9_lay : MethodName := ⟨RX9, "lay", "([I[I)V"⟩
abbrev cX9_goesOn : ByteArray := prog_11_method_49_code
def yX9_goesOn : MethodName := ⟨RX9, "goesOn", "()Z"⟩
abbrev cX9_starts : ByteArray := prog_11_method_50_code
def yX9_starts : MethodName := ⟨RX9, "starts", "()V"⟩
abbrev cX9_plain : ByteArray := prog_11_method_51_code
def yX9_plain : MethodName := ⟨RX9, "plain", "()I"⟩
abbrev cX9_lawClause : ByteArray := prog_11_method_52_code
def yX9_lawClause : MethodName := ⟨RX9, "lawClause", "(I)V"⟩
abbrev cX9_law : ByteArray := prog_11_method_53_code
def yX9_law : MethodName := ⟨RX9, "law", "()I"⟩
abbrev cX9_isLaw : ByteArray := prog_11_method_54_code
def yX9_isLaw : MethodName := ⟨RX9, "isLaw", "(I)Z"⟩
abbrev cX9_truth : ByteArray := prog_11_method_55_code
def yX9_truth : MethodName := ⟨RX9, "truth", "(Z)J"⟩
abbrev cX9_both : ByteArray := prog_11_method_56_code
def yX9_both : MethodName := ⟨RX9, "both", "(IJJ)J"⟩
abbrev cX9_answer : ByteArray := prog_11_method_57_code
def yX9_answer : MethodName := ⟨RX9, "answer", "(III)J"⟩
abbrev cX9_besides : ByteArray := prog_11_method_58_code
def yX9_besides : MethodName := ⟨RX9, "besides", "(I)I"⟩
abbrev cX9_followedBy : ByteArray := prog_11_method_59_code
def yX9_followedBy : MethodName := ⟨RX9, "followedBy", "(II)I"⟩
abbrev cX9_wayTo : ByteArray := prog_11_method_60_code
def yX9_wayTo : MethodName := ⟨RX9, "wayTo", "(II)I"⟩
abbrev cX9_turn : ByteArray := prog_11_method_61_code
def yX9_turn : MethodName := ⟨RX9, "turn", "(II)V"⟩
abbrev cX9_step : ByteArray := prog_11_method_62_code
def yX9_step : MethodName := ⟨RX9, "step", "(I)V"⟩
abbrev cX9_steps : ByteArray := prog_11_method_63_code
def yX9_steps : MethodName := ⟨RX9, "steps", "(II)V"⟩
abbrev cX9_outs : ByteArray := prog_11_method_64_code
def yX9_outs : MethodName := ⟨RX9, "outs", "()I"⟩
abbrev cX9_tick : ByteArray := prog_11_method_65_code
def yX9_tick : MethodName := ⟨RX9, "tick", "(II)I"⟩
abbrev cX9_person : ByteArray := prog_11_method_66_code
def yX9_person : MethodName := ⟨RX9, "person", "(II)I"⟩
abbrev cX9_isHerald : ByteArray := prog_11_method_67_code
def yX9_isHerald : MethodName := ⟨RX9, "isHerald", "(I)Z"⟩
abbrev cX9_herald : ByteArray := prog_11_method_68_code
def yX9_herald : MethodName := ⟨RX9, "herald", "(II)I"⟩
abbrev cX9_cell : ByteArray := prog_11_method_69_code
def yX9_cell : MethodName := ⟨RX9, "cell", "(III)I"⟩
abbrev cX9_sees : ByteArray := prog_11_method_70_code
def yX9_sees : MethodName := ⟨RX9, "sees", "(I)I"⟩
abbrev cX9_seen : ByteArray := prog_11_method_71_code
def yX9_seen : MethodName := ⟨RX9, "seen", "(II)I"⟩
abbrev cX9_heraldGoes : ByteArray := prog_11_method_72_code
def yX9_heraldGoes : MethodName := ⟨RX9, "heraldGoes", "(II)Z"⟩
abbrev cX9_goes : ByteArray := prog_11_method_73_code
def yX9_goes : MethodName := ⟨RX9, "goes", "(II)Z"⟩
abbrev cX9_follows : ByteArray := prog_11_method_74_code
def yX9_follows : MethodName := ⟨RX9, "follows", "(II)I"⟩
abbrev cX9_keeps : ByteArray := prog_11_method_75_code
def yX9_keeps : MethodName := ⟨RX9, "keeps", "()V"⟩
abbrev cX9_laysBack : ByteArray := prog_11_method_76_code
def yX9_laysBack : MethodName := ⟨RX9, "laysBack", "()V"⟩
abbrev cX9_isAsked : ByteArray := prog_11_method_77_code
def yX9_isAsked : MethodName := ⟨RX9, "isAsked", "(II)Z"⟩
abbrev cX9_ahead : ByteArray := prog_11_method_78_code
def yX9_ahead : MethodName := ⟨RX9, "ahead", "(III)I"⟩
abbrev cX9_areSame : ByteArray := prog_11_method_79_code
def yX9_areSame : MethodName := ⟨RX9, "areSame", "(II)Z"⟩
abbrev cX9_round : ByteArray := prog_11_method_80_code
def yX9_round : MethodName := ⟨RX9, "round", "(II)I"⟩
abbrev cX9_file : ByteArray := prog_11_method_81_code
def yX9_file : MethodName := ⟨RX9, "file", "(I)I"⟩
abbrev cX9_isInRing : ByteArray := prog_11_method_82_code
def yX9_isInRing : MethodName := ⟨RX9, "isInRing", "(I)Z"⟩
abbrev cX9_files : ByteArray := prog_11_method_83_code
def yX9_files : MethodName := ⟨RX9, "files", "(II)I"⟩
abbrev cX9_unlike : ByteArray := prog_11_method_84_code
def yX9_unlike : MethodName := ⟨RX9, "unlike", "(III)I"⟩
abbrev cX9_without : ByteArray := prog_11_method_85_code
def yX9_without : MethodName := ⟨RX9, "without", "(III)I"⟩
abbrev cX9_leader : ByteArray := prog_11_method_86_code
def yX9_leader : MethodName := ⟨RX9, "leader", "(III)I"⟩
abbrev cX9_outsIn : ByteArray := prog_11_method_87_code
def yX9_outsIn : MethodName := ⟨RX9, "outsIn", "(II)I"⟩
abbrev cX9_post : ByteArray := prog_11_method_88_code
def yX9_post : MethodName := ⟨RX9, "post", "(III)I"⟩
abbrev cX9_choice : ByteArray := prog_11_method_89_code
def yX9_choice : MethodName := ⟨RX9, "choice", "(III)I"⟩
abbrev cX9_outsBy : ByteArray := prog_11_method_90_code
def yX9_outsBy : MethodName := ⟨RX9, "outsBy", "(IIII)I"⟩
abbrev cX9_lead : ByteArray := prog_11_method_91_code
def yX9_lead : MethodName := ⟨RX9, "lead", "(IIII)I"⟩
abbrev cX9_wall : ByteArray := prog_11_method_92_code
def yX9_wall : MethodName := ⟨RX9, "wall", "(II)I"⟩
abbrev cX9_mayStand : ByteArray := prog_11_method_93_code
def yX9_mayStand : MethodName := ⟨RX9, "mayStand", "(I)Z"⟩
abbrev cX9_leadsHere : ByteArray := prog_11_method_94_code
def yX9_leadsHere : MethodName := ⟨RX9, "leadsHere", "(II)Z"⟩
abbrev cX9_ago : ByteArray := prog_11_method_95_code
def yX9_ago : MethodName := ⟨RX9, "ago", "(I)I"⟩
abbrev cX9_spoor : ByteArray := prog_11_method_96_code
def yX9_spoor : MethodName := ⟨RX9, "spoor", "(III)I"⟩
abbrev cX9_judged : ByteArray := prog_11_method_97_code
def yX9_judged : MethodName := ⟨RX9, "judged", "(I)I"⟩
abbrev cX9_bestLaw : ByteArray := prog_11_method_98_code
def yX9_bestLaw : MethodName := ⟨RX9, "bestLaw", "(I)I"⟩
abbrev cX9_count : ByteArray := prog_11_method_99_code
def yX9_count : MethodName := ⟨RX9, "count", "(I)I"⟩
abbrev cX9_carry : ByteArray := prog_11_method_100_code
def yX9_carry : MethodName := ⟨RX9, "carry", "([I)V"⟩
abbrev cX9_carriesAll : ByteArray := prog_11_method_101_code
def yX9_carriesAll : MethodName := ⟨RX9, "carriesAll", "(IZ)V"⟩
abbrev cX9_image : ByteArray := prog_11_method_102_code
def yX9_image : MethodName := ⟨RX9, "image", "(I)I"⟩
abbrev cX9_back : ByteArray := prog_11_method_103_code
def yX9_back : MethodName := ⟨RX9, "back", "(I)I"⟩
def RJx145de : String := "java/io/Serializable"
def RJx9f9b0 : String := "java/lang/CharSequence"
def RJxb160c : String := "java/lang/Comparable"
def RJ6 : String := "java/lang/Integer"
abbrev cJ6_bitCount_0f7a4 : ByteArray := prog_12_method_49_code
def yJ6_bitCount_0f7a4 : MethodName := ⟨RJ6, "bitCount", "(I)I"⟩
def RJ9 : String := "java/lang/Math"
abbrev cJ9_floorDiv_7cf53 : ByteArray := prog_13_method_47_code
def yJ9_floorDiv_7cf53 : MethodName := ⟨RJ9, "floorDiv", "(II)I"⟩
abbrev cJ9_abs_0f7a4 : ByteArray := prog_13_method_59_code
def yJ9_abs_0f7a4 : MethodName := ⟨RJ9, "abs", "(I)I"⟩
abbrev cJ9_max_7cf53 : ByteArray := prog_13_method_65_code
def yJ9_max_7cf53 : MethodName := ⟨RJ9, "max", "(II)I"⟩
abbrev cJ9_min_7cf53 : ByteArray := prog_13_method_69_code
def yJ9_min_7cf53 : MethodName := ⟨RJ9, "min", "(II)I"⟩
def RJ0 : String := "java/lang/String"
abbrev cJ0_length_8abf5 : ByteArray := prog_14_method_54_code
def yJ0_length_8abf5 : MethodName := ⟨RJ0, "length", "()I"⟩
abbrev cJ0_charAt_5068e : ByteArray := prog_14_method_56_code
def yJ0_charAt_5068e : MethodName := ⟨RJ0, "charAt", "(I)C"⟩
abbrev cJ0_coder_7d493 : ByteArray := prog_14_method_152_code
def yJ0_coder_7d493 : MethodName := ⟨RJ0, "coder", "()B"⟩
abbrev cJ0_isLatin1_aae02 : ByteArray := prog_14_method_154_code
def yJ0_isLatin1_aae02 : MethodName := ⟨RJ0, "isLatin1", "()Z"⟩
abbrev cJ0_checkIndex_df160 : ByteArray := prog_14_method_155_code
def yJ0_checkIndex_df160 : MethodName := ⟨RJ0, "checkIndex", "(II)V"⟩
def RJ1 : String := "java/lang/StringLatin1"
abbrev cJ1_charAt_3b067 : ByteArray := prog_15_method_2_code
def yJ1_charAt_3b067 : MethodName := ⟨RJ1, "charAt", "([BI)C"⟩
def RJ2 : String := "java/lang/StringUTF16"
abbrev cJ2_getChar_3b067 : ByteArray := prog_16_method_5_code
def yJ2_getChar_3b067 : MethodName := ⟨RJ2, "getChar", "([BI)C"⟩
abbrev cJ2_length_9d52b : ByteArray := prog_16_method_6_code
def yJ2_length_9d52b : MethodName := ⟨RJ2, "length", "([B)I"⟩
abbrev cJ2_charAt_3b067 : ByteArray := prog_16_method_83_code
def yJ2_charAt_3b067 : MethodName := ⟨RJ2, "charAt", "([BI)C"⟩
abbrev cJ2_checkIndex_2214a : ByteArray := prog_16_method_91_code
def yJ2_checkIndex_2214a : MethodName := ⟨RJ2, "checkIndex", "(I[B)V"⟩
def RJ10 : String := "java/lang/System"
def RJxfd54e : String := "java/lang/constant/Constable"
def RJx3cf43 : String := "java/lang/constant/ConstantDesc"
def RJ7 : String := "java/util/Arrays"
abbrev cJ7_fill_d0a16 : ByteArray := prog_18_method_101_code
def yJ7_fill_d0a16 : MethodName := ⟨RJ7, "fill", "([JJ)V"⟩
abbrev cJ7_fill_53178 : ByteArray := prog_18_method_103_code
def yJ7_fill_53178 : MethodName := ⟨RJ7, "fill", "([II)V"⟩
abbrev cJ7_fill_031fb : ByteArray := prog_18_method_109_code
def yJ7_fill_031fb : MethodName := ⟨RJ7, "fill", "([BB)V"⟩
def RJ3 : String := "jdk/internal/util/Preconditions"
abbrev cJ3_checkIndex_8e157 : ByteArray := prog_19_method_11_code
def yJ3_checkIndex_8e157 : MethodName := ⟨RJ3, "checkIndex", "(IILjava/util/function/BiFunction;)I"⟩
def RL : String := "SecondNearestLaw"
abbrev cL_law : ByteArray := code
def yL_law : MethodName := ⟨RL, "law", "([I)Z"⟩
abbrev vwCl : List vw_C := [(RX0, TX0, 4), (RX1, TX1, 5), (RX2, TX2, 3), (RX3, TX3, 2), (RX4, TX4, 8), (RX5, TX5, 17), (RX6, TX6, 4), (RX7, TX7, 8), (RX8, TX8, 12), (RX9, TX9, 56)]
