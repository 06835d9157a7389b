section
-- ===== PART A: goes FIRST, ahead of the names: the tables' words, and 'selects' of the private methods out of them =====
/-- a private method of a class that the tables say can be made, by its rows of tables_1 -/
def lw_okq (q : MethodName × Nat) : Prop := (q.1.cls ≠ "java/lang/invoke/MethodHandle" ∧ q.1.cls ≠ "java/lang/invoke/VarHandle") ∧ Cond.instantiable q.1.cls q.2 ∈ tables_1 ∧ Cond.privateMethod q.1 ∈ tables_1 ∧ Cond.instanceMethod q.1 ∈ tables_1
theorem lw_p0 : lw_okq (⟨"StraitFleet$Pad", "holds", "(I)Z"⟩, 2) := ⟨⟨by decide +kernel, by decide +kernel⟩, List.mem_of_getElem? (i := 152) (by decide +kernel), List.mem_of_getElem? (i := 296) (by decide +kernel), List.mem_of_getElem? (i := 297) (by decide +kernel)⟩
theorem lw_p1 : lw_okq (⟨"StraitFleet$Sea", "sendByTeeth", "(I)V"⟩, 9) := ⟨⟨by decide +kernel, by decide +kernel⟩, List.mem_of_getElem? (i := 29) (by decide +kernel), List.mem_of_getElem? (i := 346) (by decide +kernel), List.mem_of_getElem? (i := 347) (by decide +kernel)⟩
theorem lw_p2 : lw_okq (⟨"StraitFleet$Sea", "menToTeeth", "(I)I"⟩, 9) := ⟨⟨by decide +kernel, by decide +kernel⟩, List.mem_of_getElem? (i := 29) (by decide +kernel), List.mem_of_getElem? (i := 350) (by decide +kernel), List.mem_of_getElem? (i := 351) (by decide +kernel)⟩
theorem lw_p3 : lw_okq (⟨"StraitFleet$Sea", "lose", "(I)V"⟩, 9) := ⟨⟨by decide +kernel, by decide +kernel⟩, List.mem_of_getElem? (i := 29) (by decide +kernel), List.mem_of_getElem? (i := 358) (by decide +kernel), List.mem_of_getElem? (i := 359) (by decide +kernel)⟩
theorem lw_p4 : lw_okq (⟨"StraitFleet$Sea", "sendByWhirl", "(II)V"⟩, 9) := ⟨⟨by decide +kernel, by decide +kernel⟩, List.mem_of_getElem? (i := 29) (by decide +kernel), List.mem_of_getElem? (i := 362) (by decide +kernel), List.mem_of_getElem? (i := 363) (by decide +kernel)⟩
theorem lw_p5 : lw_okq (⟨"StraitFleet", "seasonCanBe", "()Z"⟩, 7) := ⟨⟨by decide +kernel, by decide +kernel⟩, List.mem_of_getElem? (i := 15) (by decide +kernel), List.mem_of_getElem? (i := 390) (by decide +kernel), List.mem_of_getElem? (i := 391) (by decide +kernel)⟩
theorem lw_p6 : lw_okq (⟨"StraitFleet", "refusalOf", "(II)I"⟩, 7) := ⟨⟨by decide +kernel, by decide +kernel⟩, List.mem_of_getElem? (i := 15) (by decide +kernel), List.mem_of_getElem? (i := 434) (by decide +kernel), List.mem_of_getElem? (i := 435) (by decide +kernel)⟩
theorem lw_p7 : lw_okq (⟨"StraitFleet$Fleet", "spreadChoices", "()I"⟩, 6) := ⟨⟨by decide +kernel, by decide +kernel⟩, List.mem_of_getElem? (i := 189) (by decide +kernel), List.mem_of_getElem? (i := 469) (by decide +kernel), List.mem_of_getElem? (i := 470) (by decide +kernel)⟩
theorem lw_p8 : lw_okq (⟨"StraitFleet$Fleet", "widenFront", "(II)I"⟩, 6) := ⟨⟨by decide +kernel, by decide +kernel⟩, List.mem_of_getElem? (i := 189) (by decide +kernel), List.mem_of_getElem? (i := 496) (by decide +kernel), List.mem_of_getElem? (i := 497) (by decide +kernel)⟩
theorem lw_p9 : lw_okq (⟨"StraitFleet$Sea", "captainGets", "(IIII)I"⟩, 9) := ⟨⟨by decide +kernel, by decide +kernel⟩, List.mem_of_getElem? (i := 29) (by decide +kernel), List.mem_of_getElem? (i := 530) (by decide +kernel), List.mem_of_getElem? (i := 531) (by decide +kernel)⟩
theorem lw_p10 : lw_okq (⟨"StraitFleet$Sea", "rewardFor", "(II)I"⟩, 9) := ⟨⟨by decide +kernel, by decide +kernel⟩, List.mem_of_getElem? (i := 29) (by decide +kernel), List.mem_of_getElem? (i := 534) (by decide +kernel), List.mem_of_getElem? (i := 535) (by decide +kernel)⟩
theorem lw_p11 : lw_okq (⟨"StraitFleet$Rolls", "rollsWith", "(IZ)I"⟩, 3) := ⟨⟨by decide +kernel, by decide +kernel⟩, List.mem_of_getElem? (i := 116) (by decide +kernel), List.mem_of_getElem? (i := 629) (by decide +kernel), List.mem_of_getElem? (i := 630) (by decide +kernel)⟩
theorem lw_p12 : lw_okq (⟨"StraitFleet", "imageBooks", "(I)LStraitFleet$Books;"⟩, 7) := ⟨⟨by decide +kernel, by decide +kernel⟩, List.mem_of_getElem? (i := 15) (by decide +kernel), List.mem_of_getElem? (i := 647) (by decide +kernel), List.mem_of_getElem? (i := 648) (by decide +kernel)⟩
theorem lw_p13 : lw_okq (⟨"StraitFleetModel", "isShip", "(I)Z"⟩, 40) := ⟨⟨by decide +kernel, by decide +kernel⟩, List.mem_of_getElem? (i := 679) (by decide +kernel), List.mem_of_getElem? (i := 828) (by decide +kernel), List.mem_of_getElem? (i := 829) (by decide +kernel)⟩
theorem lw_p14 : lw_okq (⟨"StraitFleetModel", "toldSet", "(I)I"⟩, 40) := ⟨⟨by decide +kernel, by decide +kernel⟩, List.mem_of_getElem? (i := 679) (by decide +kernel), List.mem_of_getElem? (i := 840) (by decide +kernel), List.mem_of_getElem? (i := 841) (by decide +kernel)⟩
theorem lw_p15 : lw_okq (⟨"StraitFleetModel", "faultOfTide", "()I"⟩, 40) := ⟨⟨by decide +kernel, by decide +kernel⟩, List.mem_of_getElem? (i := 679) (by decide +kernel), List.mem_of_getElem? (i := 858) (by decide +kernel), List.mem_of_getElem? (i := 859) (by decide +kernel)⟩
def lw_privs_1 : List (MethodName × Nat) := [(⟨"StraitFleet$Pad", "holds", "(I)Z"⟩, 2), (⟨"StraitFleet$Sea", "sendByTeeth", "(I)V"⟩, 9), (⟨"StraitFleet$Sea", "menToTeeth", "(I)I"⟩, 9), (⟨"StraitFleet$Sea", "lose", "(I)V"⟩, 9), (⟨"StraitFleet$Sea", "sendByWhirl", "(II)V"⟩, 9), (⟨"StraitFleet", "seasonCanBe", "()Z"⟩, 7), (⟨"StraitFleet", "refusalOf", "(II)I"⟩, 7), (⟨"StraitFleet$Fleet", "spreadChoices", "()I"⟩, 6), (⟨"StraitFleet$Fleet", "widenFront", "(II)I"⟩, 6), (⟨"StraitFleet$Sea", "captainGets", "(IIII)I"⟩, 9), (⟨"StraitFleet$Sea", "rewardFor", "(II)I"⟩, 9), (⟨"StraitFleet$Rolls", "rollsWith", "(IZ)I"⟩, 3), (⟨"StraitFleet", "imageBooks", "(I)LStraitFleet$Books;"⟩, 7), (⟨"StraitFleetModel", "isShip", "(I)Z"⟩, 40), (⟨"StraitFleetModel", "toldSet", "(I)I"⟩, 40), (⟨"StraitFleetModel", "faultOfTide", "()I"⟩, 40)]
theorem lw_r1 : ∀ q ∈ lw_privs_1, lw_okq q := List.forall_mem_cons.mpr ⟨lw_p0, List.forall_mem_cons.mpr ⟨lw_p1, List.forall_mem_cons.mpr ⟨lw_p2, List.forall_mem_cons.mpr ⟨lw_p3, List.forall_mem_cons.mpr ⟨lw_p4, List.forall_mem_cons.mpr ⟨lw_p5, List.forall_mem_cons.mpr ⟨lw_p6, List.forall_mem_cons.mpr ⟨lw_p7, List.forall_mem_cons.mpr ⟨lw_p8, List.forall_mem_cons.mpr ⟨lw_p9, List.forall_mem_cons.mpr ⟨lw_p10, List.forall_mem_cons.mpr ⟨lw_p11, List.forall_mem_cons.mpr ⟨lw_p12, List.forall_mem_cons.mpr ⟨lw_p13, List.forall_mem_cons.mpr ⟨lw_p14, List.forall_mem_cons.mpr ⟨lw_p15, fun _ h => absurd h List.not_mem_nil⟩⟩⟩⟩⟩⟩⟩⟩⟩⟩⟩⟩⟩⟩⟩⟩
theorem lw_p16 : lw_okq (⟨"StraitFleetModel", "faultOfSeason", "()I"⟩, 40) := ⟨⟨by decide +kernel, by decide +kernel⟩, List.mem_of_getElem? (i := 679) (by decide +kernel), List.mem_of_getElem? (i := 864) (by decide +kernel), List.mem_of_getElem? (i := 865) (by decide +kernel)⟩
theorem lw_p17 : lw_okq (⟨"StraitFleetModel", "keepNow", "()V"⟩, 40) := ⟨⟨by decide +kernel, by decide +kernel⟩, List.mem_of_getElem? (i := 679) (by decide +kernel), List.mem_of_getElem? (i := 878) (by decide +kernel), List.mem_of_getElem? (i := 879) (by decide +kernel)⟩
theorem lw_p18 : lw_okq (⟨"StraitFleetModel", "goSeason", "()V"⟩, 40) := ⟨⟨by decide +kernel, by decide +kernel⟩, List.mem_of_getElem? (i := 679) (by decide +kernel), List.mem_of_getElem? (i := 882) (by decide +kernel), List.mem_of_getElem? (i := 883) (by decide +kernel)⟩
theorem lw_p19 : lw_okq (⟨"StraitFleetModel", "order", "(III)V"⟩, 40) := ⟨⟨by decide +kernel, by decide +kernel⟩, List.mem_of_getElem? (i := 679) (by decide +kernel), List.mem_of_getElem? (i := 886) (by decide +kernel), List.mem_of_getElem? (i := 887) (by decide +kernel)⟩
theorem lw_p20 : lw_okq (⟨"StraitFleetModel", "goTeeth", "(I)V"⟩, 40) := ⟨⟨by decide +kernel, by decide +kernel⟩, List.mem_of_getElem? (i := 679) (by decide +kernel), List.mem_of_getElem? (i := 890) (by decide +kernel), List.mem_of_getElem? (i := 891) (by decide +kernel)⟩
theorem lw_p21 : lw_okq (⟨"StraitFleetModel", "lostByTeeth", "(I)I"⟩, 40) := ⟨⟨by decide +kernel, by decide +kernel⟩, List.mem_of_getElem? (i := 679) (by decide +kernel), List.mem_of_getElem? (i := 894) (by decide +kernel), List.mem_of_getElem? (i := 895) (by decide +kernel)⟩
theorem lw_p22 : lw_okq (⟨"StraitFleetModel", "goWhirl", "(II)V"⟩, 40) := ⟨⟨by decide +kernel, by decide +kernel⟩, List.mem_of_getElem? (i := 679) (by decide +kernel), List.mem_of_getElem? (i := 898) (by decide +kernel), List.mem_of_getElem? (i := 899) (by decide +kernel)⟩
theorem lw_p23 : lw_okq (⟨"StraitFleetModel", "tenths", "(I)I"⟩, 40) := ⟨⟨by decide +kernel, by decide +kernel⟩, List.mem_of_getElem? (i := 679) (by decide +kernel), List.mem_of_getElem? (i := 905) (by decide +kernel), List.mem_of_getElem? (i := 906) (by decide +kernel)⟩
theorem lw_p24 : lw_okq (⟨"StraitFleetModel", "goCape", "(I)V"⟩, 40) := ⟨⟨by decide +kernel, by decide +kernel⟩, List.mem_of_getElem? (i := 679) (by decide +kernel), List.mem_of_getElem? (i := 909) (by decide +kernel), List.mem_of_getElem? (i := 910) (by decide +kernel)⟩
theorem lw_p25 : lw_okq (⟨"StraitFleetModel", "putBack", "()V"⟩, 40) := ⟨⟨by decide +kernel, by decide +kernel⟩, List.mem_of_getElem? (i := 679) (by decide +kernel), List.mem_of_getElem? (i := 913) (by decide +kernel), List.mem_of_getElem? (i := 914) (by decide +kernel)⟩
theorem lw_p26 : lw_okq (⟨"StraitFleetModel", "stateOf", "(II)I"⟩, 40) := ⟨⟨by decide +kernel, by decide +kernel⟩, List.mem_of_getElem? (i := 679) (by decide +kernel), List.mem_of_getElem? (i := 922) (by decide +kernel), List.mem_of_getElem? (i := 923) (by decide +kernel)⟩
theorem lw_p27 : lw_okq (⟨"StraitFleetModel", "meanOf", "(III)I"⟩, 40) := ⟨⟨by decide +kernel, by decide +kernel⟩, List.mem_of_getElem? (i := 679) (by decide +kernel), List.mem_of_getElem? (i := 948) (by decide +kernel), List.mem_of_getElem? (i := 949) (by decide +kernel)⟩
theorem lw_p28 : lw_okq (⟨"StraitFleetModel", "teethTake", "(I)I"⟩, 40) := ⟨⟨by decide +kernel, by decide +kernel⟩, List.mem_of_getElem? (i := 679) (by decide +kernel), List.mem_of_getElem? (i := 952) (by decide +kernel), List.mem_of_getElem? (i := 953) (by decide +kernel)⟩
theorem lw_p29 : lw_okq (⟨"StraitFleetModel", "allOf", "(I)I"⟩, 40) := ⟨⟨by decide +kernel, by decide +kernel⟩, List.mem_of_getElem? (i := 679) (by decide +kernel), List.mem_of_getElem? (i := 956) (by decide +kernel), List.mem_of_getElem? (i := 957) (by decide +kernel)⟩
theorem lw_p30 : lw_okq (⟨"StraitFleetModel", "worstOf", "(III)I"⟩, 40) := ⟨⟨by decide +kernel, by decide +kernel⟩, List.mem_of_getElem? (i := 679) (by decide +kernel), List.mem_of_getElem? (i := 964) (by decide +kernel), List.mem_of_getElem? (i := 965) (by decide +kernel)⟩
theorem lw_p31 : lw_okq (⟨"StraitFleetModel", "choiceOf", "(II)I"⟩, 40) := ⟨⟨by decide +kernel, by decide +kernel⟩, List.mem_of_getElem? (i := 679) (by decide +kernel), List.mem_of_getElem? (i := 972) (by decide +kernel), List.mem_of_getElem? (i := 973) (by decide +kernel)⟩
def lw_privs_2 : List (MethodName × Nat) := [(⟨"StraitFleetModel", "faultOfSeason", "()I"⟩, 40), (⟨"StraitFleetModel", "keepNow", "()V"⟩, 40), (⟨"StraitFleetModel", "goSeason", "()V"⟩, 40), (⟨"StraitFleetModel", "order", "(III)V"⟩, 40), (⟨"StraitFleetModel", "goTeeth", "(I)V"⟩, 40), (⟨"StraitFleetModel", "lostByTeeth", "(I)I"⟩, 40), (⟨"StraitFleetModel", "goWhirl", "(II)V"⟩, 40), (⟨"StraitFleetModel", "tenths", "(I)I"⟩, 40), (⟨"StraitFleetModel", "goCape", "(I)V"⟩, 40), (⟨"StraitFleetModel", "putBack", "()V"⟩, 40), (⟨"StraitFleetModel", "stateOf", "(II)I"⟩, 40), (⟨"StraitFleetModel", "meanOf", "(III)I"⟩, 40), (⟨"StraitFleetModel", "teethTake", "(I)I"⟩, 40), (⟨"StraitFleetModel", "allOf", "(I)I"⟩, 40), (⟨"StraitFleetModel", "worstOf", "(III)I"⟩, 40), (⟨"StraitFleetModel", "choiceOf", "(II)I"⟩, 40)]
theorem lw_r2 : ∀ q ∈ lw_privs_2, lw_okq q := List.forall_mem_cons.mpr ⟨lw_p16, List.forall_mem_cons.mpr ⟨lw_p17, List.forall_mem_cons.mpr ⟨lw_p18, List.forall_mem_cons.mpr ⟨lw_p19, List.forall_mem_cons.mpr ⟨lw_p20, List.forall_mem_cons.mpr ⟨lw_p21, List.forall_mem_cons.mpr ⟨lw_p22, List.forall_mem_cons.mpr ⟨lw_p23, List.forall_mem_cons.mpr ⟨lw_p24, List.forall_mem_cons.mpr ⟨lw_p25, List.forall_mem_cons.mpr ⟨lw_p26, List.forall_mem_cons.mpr ⟨lw_p27, List.forall_mem_cons.mpr ⟨lw_p28, List.forall_mem_cons.mpr ⟨lw_p29, List.forall_mem_cons.mpr ⟨lw_p30, List.forall_mem_cons.mpr ⟨lw_p31, fun _ h => absurd h List.not_mem_nil⟩⟩⟩⟩⟩⟩⟩⟩⟩⟩⟩⟩⟩⟩⟩⟩
theorem lw_p32 : lw_okq (⟨"StraitFleetModel", "isInHarbour", "(I)Z"⟩, 40) := ⟨⟨by decide +kernel, by decide +kernel⟩, List.mem_of_getElem? (i := 679) (by decide +kernel), List.mem_of_getElem? (i := 986) (by decide +kernel), List.mem_of_getElem? (i := 987) (by decide +kernel)⟩
theorem lw_p33 : lw_okq (⟨"StraitFleetModel", "layFleet", "(I)V"⟩, 40) := ⟨⟨by decide +kernel, by decide +kernel⟩, List.mem_of_getElem? (i := 679) (by decide +kernel), List.mem_of_getElem? (i := 991) (by decide +kernel), List.mem_of_getElem? (i := 992) (by decide +kernel)⟩
theorem lw_p34 : lw_okq (⟨"StraitFleetModel", "behindIt", "(I)I"⟩, 40) := ⟨⟨by decide +kernel, by decide +kernel⟩, List.mem_of_getElem? (i := 679) (by decide +kernel), List.mem_of_getElem? (i := 995) (by decide +kernel), List.mem_of_getElem? (i := 996) (by decide +kernel)⟩
theorem lw_p35 : lw_okq (⟨"StraitFleetModel", "isOnLine", "(I)Z"⟩, 40) := ⟨⟨by decide +kernel, by decide +kernel⟩, List.mem_of_getElem? (i := 679) (by decide +kernel), List.mem_of_getElem? (i := 1003) (by decide +kernel), List.mem_of_getElem? (i := 1004) (by decide +kernel)⟩
theorem lw_p36 : lw_okq (⟨"StraitFleetModel", "lessThan", "(I)I"⟩, 40) := ⟨⟨by decide +kernel, by decide +kernel⟩, List.mem_of_getElem? (i := 679) (by decide +kernel), List.mem_of_getElem? (i := 1007) (by decide +kernel), List.mem_of_getElem? (i := 1008) (by decide +kernel)⟩
theorem lw_p37 : lw_okq (⟨"StraitFleetModel", "captainBy", "(III)I"⟩, 40) := ⟨⟨by decide +kernel, by decide +kernel⟩, List.mem_of_getElem? (i := 679) (by decide +kernel), List.mem_of_getElem? (i := 1019) (by decide +kernel), List.mem_of_getElem? (i := 1020) (by decide +kernel)⟩
theorem lw_p38 : lw_okq (⟨"StraitFleetModel", "gets", "(IIII)I"⟩, 40) := ⟨⟨by decide +kernel, by decide +kernel⟩, List.mem_of_getElem? (i := 679) (by decide +kernel), List.mem_of_getElem? (i := 1023) (by decide +kernel), List.mem_of_getElem? (i := 1024) (by decide +kernel)⟩
theorem lw_p39 : lw_okq (⟨"StraitFleetModel", "got", "(I)I"⟩, 40) := ⟨⟨by decide +kernel, by decide +kernel⟩, List.mem_of_getElem? (i := 679) (by decide +kernel), List.mem_of_getElem? (i := 1045) (by decide +kernel), List.mem_of_getElem? (i := 1046) (by decide +kernel)⟩
theorem lw_p40 : lw_okq (⟨"StraitFleetModel", "premiums", "(I)I"⟩, 40) := ⟨⟨by decide +kernel, by decide +kernel⟩, List.mem_of_getElem? (i := 679) (by decide +kernel), List.mem_of_getElem? (i := 1049) (by decide +kernel), List.mem_of_getElem? (i := 1050) (by decide +kernel)⟩
theorem lw_p41 : lw_okq (⟨"StraitFleetModel", "isAboard", "(I)Z"⟩, 40) := ⟨⟨by decide +kernel, by decide +kernel⟩, List.mem_of_getElem? (i := 679) (by decide +kernel), List.mem_of_getElem? (i := 1062) (by decide +kernel), List.mem_of_getElem? (i := 1063) (by decide +kernel)⟩
theorem lw_p42 : lw_okq (⟨"StraitFleetModel", "passAll", "()V"⟩, 40) := ⟨⟨by decide +kernel, by decide +kernel⟩, List.mem_of_getElem? (i := 679) (by decide +kernel), List.mem_of_getElem? (i := 1112) (by decide +kernel), List.mem_of_getElem? (i := 1113) (by decide +kernel)⟩
theorem lw_p43 : lw_okq (⟨"StraitFleetModel", "passNumbers", "()V"⟩, 40) := ⟨⟨by decide +kernel, by decide +kernel⟩, List.mem_of_getElem? (i := 679) (by decide +kernel), List.mem_of_getElem? (i := 1116) (by decide +kernel), List.mem_of_getElem? (i := 1117) (by decide +kernel)⟩
theorem lw_p44 : lw_okq (⟨"StraitFleetModel", "pass", "(I)I"⟩, 40) := ⟨⟨by decide +kernel, by decide +kernel⟩, List.mem_of_getElem? (i := 679) (by decide +kernel), List.mem_of_getElem? (i := 1120) (by decide +kernel), List.mem_of_getElem? (i := 1121) (by decide +kernel)⟩
theorem lw_p45 : lw_okq (⟨"StraitFleetModel", "toldMany", "(I)I"⟩, 40) := ⟨⟨by decide +kernel, by decide +kernel⟩, List.mem_of_getElem? (i := 679) (by decide +kernel), List.mem_of_getElem? (i := 1137) (by decide +kernel), List.mem_of_getElem? (i := 1138) (by decide +kernel)⟩
def lw_privs_3 : List (MethodName × Nat) := [(⟨"StraitFleetModel", "isInHarbour", "(I)Z"⟩, 40), (⟨"StraitFleetModel", "layFleet", "(I)V"⟩, 40), (⟨"StraitFleetModel", "behindIt", "(I)I"⟩, 40), (⟨"StraitFleetModel", "isOnLine", "(I)Z"⟩, 40), (⟨"StraitFleetModel", "lessThan", "(I)I"⟩, 40), (⟨"StraitFleetModel", "captainBy", "(III)I"⟩, 40), (⟨"StraitFleetModel", "gets", "(IIII)I"⟩, 40), (⟨"StraitFleetModel", "got", "(I)I"⟩, 40), (⟨"StraitFleetModel", "premiums", "(I)I"⟩, 40), (⟨"StraitFleetModel", "isAboard", "(I)Z"⟩, 40), (⟨"StraitFleetModel", "passAll", "()V"⟩, 40), (⟨"StraitFleetModel", "passNumbers", "()V"⟩, 40), (⟨"StraitFleetModel", "pass", "(I)I"⟩, 40), (⟨"StraitFleetModel", "toldMany", "(I)I"⟩, 40)]
theorem lw_r3 : ∀ q ∈ lw_privs_3, lw_okq q := List.forall_mem_cons.mpr ⟨lw_p32, List.forall_mem_cons.mpr ⟨lw_p33, List.forall_mem_cons.mpr ⟨lw_p34, List.forall_mem_cons.mpr ⟨lw_p35, List.forall_mem_cons.mpr ⟨lw_p36, List.forall_mem_cons.mpr ⟨lw_p37, List.forall_mem_cons.mpr ⟨lw_p38, List.forall_mem_cons.mpr ⟨lw_p39, List.forall_mem_cons.mpr ⟨lw_p40, List.forall_mem_cons.mpr ⟨lw_p41, List.forall_mem_cons.mpr ⟨lw_p42, List.forall_mem_cons.mpr ⟨lw_p43, List.forall_mem_cons.mpr ⟨lw_p44, List.forall_mem_cons.mpr ⟨lw_p45, fun _ h => absurd h List.not_mem_nil⟩⟩⟩⟩⟩⟩⟩⟩⟩⟩⟩⟩⟩⟩
def lw_privs : List (MethodName × Nat) := lw_privs_1 ++ (lw_privs_2 ++ (lw_privs_3))
def lw_tbl : List Cond := k2_sels lw_privs ++ tables_1
theorem lw_privs_ok : ∀ q ∈ lw_privs, lw_okq q := by
  show ∀ q ∈ lw_privs_1 ++ (lw_privs_2 ++ (lw_privs_3)), lw_okq q
  exact List.forall_mem_append.mpr ⟨lw_r1, List.forall_mem_append.mpr ⟨lw_r2, lw_r3⟩⟩
def RX0 : String := "StraitFleet$Books"
def TX0 : u_T := fun k => match k with
  | 0 => ("StraitFleet$Books", "sea", "LStraitFleet$Sea;", true)
  | 1 => ("StraitFleet$Books", "insurers", "LStraitFleet$Insurers;", true)
  | 2 => ("StraitFleet$Books", "crew", "LStraitFleet$Crew;", true)
  | _ => ("StraitFleet$Books", "rolls", "LStraitFleet$Rolls;", true)
def tyX0 : Nat → FieldType := fun k => match k with
  | 0 => .object "StraitFleet$Sea"
  | 1 => .object "StraitFleet$Insurers"
  | 2 => .object "StraitFleet$Crew"
  | _ => .object "StraitFleet$Rolls"
abbrev wsX00 : List Cond := u_ws RX0 TX0 4
theorem nmX0 : ∀ a, a < 4 → ∀ b, b < 4 → a ≠ b → (TX0 a).2.1 ≠ (TX0 b).2.1 := by decide +kernel
theorem tyX0_ok : ∀ k, k < 4 → parseFieldDescriptor (TX0 k).2.2.1 = some (tyX0 k) := by decide +kernel
abbrev cX0_init : ByteArray := prog_2_method_1_code
def yX0_init : MethodName := ⟨RX0, "<init>", "()V"⟩
abbrev cX0_become : ByteArray := prog_2_method_2_code
def yX0_become : MethodName := ⟨RX0, "become", "(LStraitFleet$Books;)V"⟩
def RX1 : String := "StraitFleet$Crew"
def TX1 : u_T := fun k => match k with
  | 0 => ("StraitFleet$Crew", "there", "I", false)
  | _ => ("StraitFleet$Crew", "drawn", "[I", true)
def tyX1 : Nat → FieldType := fun k => match k with
  | 0 => .int
  | _ => .array .int
abbrev wsX10 : List Cond := u_ws RX1 TX1 2
theorem nmX1 : ∀ a, a < 2 → ∀ b, b < 2 → a ≠ b → (TX1 a).2.1 ≠ (TX1 b).2.1 := by decide +kernel
theorem tyX1_ok : ∀ k, k < 2 → parseFieldDescriptor (TX1 k).2.2.1 = some (tyX1 k) := by decide +kernel
abbrev cX1_init : ByteArray := prog_3_method_1_code
def yX1_init : MethodName := ⟨RX1, "<init>", "()V"⟩
abbrev cX1_become : ByteArray := prog_3_method_2_code
def yX1_become : MethodName := ⟨RX1, "become", "(LStraitFleet$Crew;)V"⟩
abbrev cX1_has : ByteArray := prog_3_method_3_code
def yX1_has : MethodName := ⟨RX1, "has", "(I)Z"⟩
abbrev cX1_countDrawn : ByteArray := prog_3_method_4_code
def yX1_countDrawn : MethodName := ⟨RX1, "countDrawn", "(II)I"⟩
def RX2 : String := "StraitFleet$Fleet"
def TX2 : u_T := fun k => match k with
  | 0 => ("StraitFleet$Fleet", "moored", "[I", true)
  | 1 => ("StraitFleet$Fleet", "count", "I", false)
  | 2 => ("StraitFleet$Fleet", "costs", "[J", true)
  | 3 => ("StraitFleet$Fleet", "choices", "[J", true)
  | 4 => ("StraitFleet$Fleet", "front", "[J", true)
  | _ => ("StraitFleet$Fleet", "next", "[J", true)
def tyX2 : Nat → FieldType := fun k => match k with
  | 0 => .array .int
  | 1 => .int
  | 2 => .array .long
  | 3 => .array .long
  | 4 => .array .long
  | _ => .array .long
abbrev wsX20 : List Cond := u_ws RX2 TX2 6
theorem nmX2 : ∀ a, a < 6 → ∀ b, b < 6 → a ≠ b → (TX2 a).2.1 ≠ (TX2 b).2.1 := by decide +kernel
theorem tyX2_ok : ∀ k, k < 6 → parseFieldDescriptor (TX2 k).2.2.1 = some (tyX2 k) := by decide +kernel
abbrev cX2_init : ByteArray := prog_4_method_1_code
def yX2_init : MethodName := ⟨RX2, "<init>", "()V"⟩
abbrev cX2_gather : ByteArray := prog_4_method_2_code
def yX2_gather : MethodName := ⟨RX2, "gather", "(LStraitFleet$Sea;I)V"⟩
abbrev cX2_meanIn : ByteArray := prog_4_method_3_code
def yX2_meanIn : MethodName := ⟨RX2, "meanIn", "(J)I"⟩
abbrev cX2_worstIn : ByteArray := prog_4_method_4_code
def yX2_worstIn : MethodName := ⟨RX2, "worstIn", "(J)I"⟩
abbrev cX2_spreadChoices : ByteArray := prog_4_method_5_code
def yX2_spreadChoices : MethodName := ⟨RX2, "spreadChoices", "()I"⟩
abbrev cX2_leastWithin : ByteArray := prog_4_method_6_code
def yX2_leastWithin : MethodName := ⟨RX2, "leastWithin", "(I)I"⟩
abbrev cX2_meanOfChoice : ByteArray := prog_4_method_7_code
def yX2_meanOfChoice : MethodName := ⟨RX2, "meanOfChoice", "(I)I"⟩
abbrev cX2_sideInChoice : ByteArray := prog_4_method_8_code
def yX2_sideInChoice : MethodName := ⟨RX2, "sideInChoice", "(II)I"⟩
abbrev cX2_drawLine : ByteArray := prog_4_method_9_code
def yX2_drawLine : MethodName := ⟨RX2, "drawLine", "()I"⟩
abbrev cX2_widenFront : ByteArray := prog_4_method_10_code
def yX2_widenFront : MethodName := ⟨RX2, "widenFront", "(II)I"⟩
abbrev cX2_onLine : ByteArray := prog_4_method_11_code
def yX2_onLine : MethodName := ⟨RX2, "onLine", "(II)I"⟩
abbrev cX2_commonSide : ByteArray := prog_4_method_12_code
def yX2_commonSide : MethodName := ⟨RX2, "commonSide", "()I"⟩
abbrev cX2_meanOfAllBy : ByteArray := prog_4_method_13_code
def yX2_meanOfAllBy : MethodName := ⟨RX2, "meanOfAllBy", "(I)I"⟩
def RX3 : String := "StraitFleet$Insurers"
def TX3 : u_T := fun k => match k with
  | 0 => ("StraitFleet$Insurers", "there", "I", false)
  | 1 => ("StraitFleet$Insurers", "premium", "[I", true)
  | _ => ("StraitFleet$Insurers", "pays", "[I", true)
def tyX3 : Nat → FieldType := fun k => match k with
  | 0 => .int
  | 1 => .array .int
  | _ => .array .int
abbrev wsX30 : List Cond := u_ws RX3 TX3 3
theorem nmX3 : ∀ a, a < 3 → ∀ b, b < 3 → a ≠ b → (TX3 a).2.1 ≠ (TX3 b).2.1 := by decide +kernel
theorem tyX3_ok : ∀ k, k < 3 → parseFieldDescriptor (TX3 k).2.2.1 = some (tyX3 k) := by decide +kernel
abbrev cX3_init : ByteArray := prog_5_method_1_code
def yX3_init : MethodName := ⟨RX3, "<init>", "()V"⟩
abbrev cX3_become : ByteArray := prog_5_method_2_code
def yX3_become : MethodName := ⟨RX3, "become", "(LStraitFleet$Insurers;)V"⟩
abbrev cX3_worthTaking : ByteArray := prog_5_method_3_code
def yX3_worthTaking : MethodName := ⟨RX3, "worthTaking", "(I)I"⟩
abbrev cX3_premiumsOf : ByteArray := prog_5_method_4_code
def yX3_premiumsOf : MethodName := ⟨RX3, "premiumsOf", "(I)I"⟩
abbrev cX3_paysOf : ByteArray := prog_5_method_5_code
def yX3_paysOf : MethodName := ⟨RX3, "paysOf", "(I)I"⟩
abbrev cX3_sumOver : ByteArray := prog_5_method_6_code
def yX3_sumOver : MethodName := ⟨RX3, "sumOver", "(I[I)I"⟩
def RX4 : String := "StraitFleet$Pad"
def TX4 : u_T := fun k => match k with
  | 0 => ("StraitFleet$Pad", "signs", "[I", true)
  | _ => ("StraitFleet$Pad", "count", "I", false)
def tyX4 : Nat → FieldType := fun k => match k with
  | 0 => .array .int
  | _ => .int
abbrev wsX40 : List Cond := u_ws RX4 TX4 2
theorem nmX4 : ∀ a, a < 2 → ∀ b, b < 2 → a ≠ b → (TX4 a).2.1 ≠ (TX4 b).2.1 := by decide +kernel
theorem tyX4_ok : ∀ k, k < 2 → parseFieldDescriptor (TX4 k).2.2.1 = some (tyX4 k) := by decide +kernel
abbrev cX4_init : ByteArray := prog_6_method_1_code
def yX4_init : MethodName := ⟨RX4, "<init>", "()V"⟩
abbrev cX4_clear : ByteArray := prog_6_method_2_code
def yX4_clear : MethodName := ⟨RX4, "clear", "()I"⟩
abbrev cX4_faultAsTide : ByteArray := prog_6_method_3_code
def yX4_faultAsTide : MethodName := ⟨RX4, "faultAsTide", "()I"⟩
abbrev cX4_faultAsSeason : ByteArray := prog_6_method_4_code
def yX4_faultAsSeason : MethodName := ⟨RX4, "faultAsSeason", "()I"⟩
abbrev cX4_hourPassesAt : ByteArray := prog_6_method_5_code
def yX4_hourPassesAt : MethodName := ⟨RX4, "hourPassesAt", "(I)Z"⟩
abbrev cX4_shipAt : ByteArray := prog_6_method_6_code
def yX4_shipAt : MethodName := ⟨RX4, "shipAt", "(I)I"⟩
abbrev cX4_sideAt : ByteArray := prog_6_method_7_code
def yX4_sideAt : MethodName := ⟨RX4, "sideAt", "(I)I"⟩
abbrev cX4_holds : ByteArray := prog_6_method_8_code
def yX4_holds : MethodName := ⟨RX4, "holds", "(I)Z"⟩
def RX5 : String := "StraitFleet$Rolls"
def TX5 : u_T := fun k => match k with
  | 0 => ("StraitFleet$Rolls", "count", "I", false)
  | 1 => ("StraitFleet$Rolls", "read", "[I", true)
  | _ => ("StraitFleet$Rolls", "room", "[I", true)
def tyX5 : Nat → FieldType := fun k => match k with
  | 0 => .int
  | 1 => .array .int
  | _ => .array .int
abbrev wsX50 : List Cond := u_ws RX5 TX5 3
theorem nmX5 : ∀ a, a < 3 → ∀ b, b < 3 → a ≠ b → (TX5 a).2.1 ≠ (TX5 b).2.1 := by decide +kernel
theorem tyX5_ok : ∀ k, k < 3 → parseFieldDescriptor (TX5 k).2.2.1 = some (tyX5 k) := by decide +kernel
abbrev cX5_init : ByteArray := prog_7_method_1_code
def yX5_init : MethodName := ⟨RX5, "<init>", "()V"⟩
abbrev cX5_become : ByteArray := prog_7_method_2_code
def yX5_become : MethodName := ⟨RX5, "become", "(LStraitFleet$Rolls;)V"⟩
abbrev cX5_namesOnTwo : ByteArray := prog_7_method_3_code
def yX5_namesOnTwo : MethodName := ⟨RX5, "namesOnTwo", "(Z)I"⟩
abbrev cX5_rollsWith : ByteArray := prog_7_method_4_code
def yX5_rollsWith : MethodName := ⟨RX5, "rollsWith", "(IZ)I"⟩
def RX6 : String := "StraitFleet$Sea"
def TX6 : u_T := fun k => match k with
  | 0 => ("StraitFleet$Sea", "there", "I", false)
  | 1 => ("StraitFleet$Sea", "where", "[I", true)
  | 2 => ("StraitFleet$Sea", "men", "[I", true)
  | 3 => ("StraitFleet$Sea", "straw", "[I", true)
  | 4 => ("StraitFleet$Sea", "cargo", "[I", true)
  | 5 => ("StraitFleet$Sea", "terms", "[I", true)
  | 6 => ("StraitFleet$Sea", "tenths", "[I", true)
  | 7 => ("StraitFleet$Sea", "digits", "I", false)
  | _ => ("StraitFleet$Sea", "sums", "[I", true)
def tyX6 : Nat → FieldType := fun k => match k with
  | 0 => .int
  | 1 => .array .int
  | 2 => .array .int
  | 3 => .array .int
  | 4 => .array .int
  | 5 => .array .int
  | 6 => .array .int
  | 7 => .int
  | _ => .array .int
abbrev wsX60 : List Cond := u_ws RX6 TX6 9
theorem nmX6 : ∀ a, a < 9 → ∀ b, b < 9 → a ≠ b → (TX6 a).2.1 ≠ (TX6 b).2.1 := by decide +kernel
theorem tyX6_ok : ∀ k, k < 9 → parseFieldDescriptor (TX6 k).2.2.1 = some (tyX6 k) := by decide +kernel
abbrev cX6_init : ByteArray := prog_8_method_1_code
def yX6_init : MethodName := ⟨RX6, "<init>", "()V"⟩
abbrev cX6_become : ByteArray := prog_8_method_2_code
def yX6_become : MethodName := ⟨RX6, "become", "(LStraitFleet$Sea;)V"⟩
abbrev cX6_has : ByteArray := prog_8_method_3_code
def yX6_has : MethodName := ⟨RX6, "has", "(I)Z"⟩
abbrev cX6_moored : ByteArray := prog_8_method_4_code
def yX6_moored : MethodName := ⟨RX6, "moored", "(I)Z"⟩
abbrev cX6_whyNot : ByteArray := prog_8_method_5_code
def yX6_whyNot : MethodName := ⟨RX6, "whyNot", "(I)I"⟩
abbrev cX6_look : ByteArray := prog_8_method_6_code
def yX6_look : MethodName := ⟨RX6, "look", "(II)I"⟩
abbrev cX6_digitAt : ByteArray := prog_8_method_7_code
def yX6_digitAt : MethodName := ⟨RX6, "digitAt", "(I)I"⟩
abbrev cX6_send : ByteArray := prog_8_method_8_code
def yX6_send : MethodName := ⟨RX6, "send", "(III)V"⟩
abbrev cX6_sendByTeeth : ByteArray := prog_8_method_9_code
def yX6_sendByTeeth : MethodName := ⟨RX6, "sendByTeeth", "(I)V"⟩
abbrev cX6_sendByWhirl : ByteArray := prog_8_method_10_code
def yX6_sendByWhirl : MethodName := ⟨RX6, "sendByWhirl", "(II)V"⟩
abbrev cX6_lose : ByteArray := prog_8_method_11_code
def yX6_lose : MethodName := ⟨RX6, "lose", "(I)V"⟩
abbrev cX6_menToTeeth : ByteArray := prog_8_method_12_code
def yX6_menToTeeth : MethodName := ⟨RX6, "menToTeeth", "(I)I"⟩
abbrev cX6_lostToTeeth : ByteArray := prog_8_method_13_code
def yX6_lostToTeeth : MethodName := ⟨RX6, "lostToTeeth", "(I)I"⟩
abbrev cX6_whole : ByteArray := prog_8_method_14_code
def yX6_whole : MethodName := ⟨RX6, "whole", "(I)I"⟩
abbrev cX6_fare : ByteArray := prog_8_method_15_code
def yX6_fare : MethodName := ⟨RX6, "fare", "(I)I"⟩
abbrev cX6_meanBy : ByteArray := prog_8_method_16_code
def yX6_meanBy : MethodName := ⟨RX6, "meanBy", "(III)I"⟩
abbrev cX6_worstBy : ByteArray := prog_8_method_17_code
def yX6_worstBy : MethodName := ⟨RX6, "worstBy", "(III)I"⟩
abbrev cX6_ownersSide : ByteArray := prog_8_method_18_code
def yX6_ownersSide : MethodName := ⟨RX6, "ownersSide", "(II)I"⟩
abbrev cX6_leastMean : ByteArray := prog_8_method_19_code
def yX6_leastMean : MethodName := ⟨RX6, "leastMean", "(II)I"⟩
abbrev cX6_captainsSide : ByteArray := prog_8_method_20_code
def yX6_captainsSide : MethodName := ⟨RX6, "captainsSide", "(III)I"⟩
abbrev cX6_captainGets : ByteArray := prog_8_method_21_code
def yX6_captainGets : MethodName := ⟨RX6, "captainGets", "(IIII)I"⟩
abbrev cX6_rewardFor : ByteArray := prog_8_method_22_code
def yX6_rewardFor : MethodName := ⟨RX6, "rewardFor", "(II)I"⟩
def RX7 : String := "StraitFleet$Season"
def TX7 : u_T := fun k => match k with
  | 0 => ("StraitFleet$Season", "sea", "LStraitFleet$Sea;", true)
  | 1 => ("StraitFleet$Season", "parts", "I", false)
  | _ => ("StraitFleet$Season", "why", "I", false)
def tyX7 : Nat → FieldType := fun k => match k with
  | 0 => .object "StraitFleet$Sea"
  | 1 => .int
  | _ => .int
abbrev wsX70 : List Cond := u_ws RX7 TX7 3
theorem nmX7 : ∀ a, a < 3 → ∀ b, b < 3 → a ≠ b → (TX7 a).2.1 ≠ (TX7 b).2.1 := by decide +kernel
theorem tyX7_ok : ∀ k, k < 3 → parseFieldDescriptor (TX7 k).2.2.1 = some (tyX7 k) := by decide +kernel
abbrev cX7_init : ByteArray := prog_9_method_1_code
def yX7_init : MethodName := ⟨RX7, "<init>", "()V"⟩
abbrev cX7_tryOut : ByteArray := prog_9_method_2_code
def yX7_tryOut : MethodName := ⟨RX7, "tryOut", "(LStraitFleet$Pad;LStraitFleet$Sea;)V"⟩
def RX8 : String := "StraitFleet"
def TX8 : u_T := fun k => match k with
  | 0 => ("StraitFleet", "books", "LStraitFleet$Books;", true)
  | 1 => ("StraitFleet", "firstImage", "LStraitFleet$Books;", true)
  | 2 => ("StraitFleet", "secondImage", "LStraitFleet$Books;", true)
  | 3 => ("StraitFleet", "imagesKept", "I", false)
  | 4 => ("StraitFleet", "pad", "LStraitFleet$Pad;", true)
  | 5 => ("StraitFleet", "season", "LStraitFleet$Season;", true)
  | _ => ("StraitFleet", "fleet", "LStraitFleet$Fleet;", true)
def tyX8 : Nat → FieldType := fun k => match k with
  | 0 => .object "StraitFleet$Books"
  | 1 => .object "StraitFleet$Books"
  | 2 => .object "StraitFleet$Books"
  | 3 => .int
  | 4 => .object "StraitFleet$Pad"
  | 5 => .object "StraitFleet$Season"
  | _ => .object "StraitFleet$Fleet"
abbrev wsX80 : List Cond := u_ws RX8 TX8 7
theorem nmX8 : ∀ a, a < 7 → ∀ b, b < 7 → a ≠ b → (TX8 a).2.1 ≠ (TX8 b).2.1 := by decide +kernel
theorem tyX8_ok : ∀ k, k < 7 → parseFieldDescriptor (TX8 k).2.2.1 = some (tyX8 k) := by decide +kernel
abbrev cX8_init : ByteArray := prog_1_method_1_code
def yX8_init : MethodName := ⟨RX8, "<init>", "()V"⟩
abbrev cX8_ship : ByteArray := prog_1_method_2_code
def yX8_ship : MethodName := ⟨RX8, "ship", "(IIII)I"⟩
abbrev cX8_scrap : ByteArray := prog_1_method_3_code
def yX8_scrap : MethodName := ⟨RX8, "scrap", "(I)I"⟩
abbrev cX8_set : ByteArray := prog_1_method_4_code
def yX8_set : MethodName := ⟨RX8, "set", "(II)I"⟩
abbrev cX8_say : ByteArray := prog_1_method_5_code
def yX8_say : MethodName := ⟨RX8, "say", "(I)I"⟩
abbrev cX8_wipe : ByteArray := prog_1_method_6_code
def yX8_wipe : MethodName := ⟨RX8, "wipe", "()I"⟩
abbrev cX8_fault : ByteArray := prog_1_method_7_code
def yX8_fault : MethodName := ⟨RX8, "fault", "(I)I"⟩
abbrev cX8_tide : ByteArray := prog_1_method_8_code
def yX8_tide : MethodName := ⟨RX8, "tide", "()I"⟩
abbrev cX8_judge : ByteArray := prog_1_method_9_code
def yX8_judge : MethodName := ⟨RX8, "judge", "(I)I"⟩
abbrev cX8_state : ByteArray := prog_1_method_10_code
def yX8_state : MethodName := ⟨RX8, "state", "(II)I"⟩
abbrev cX8_behind : ByteArray := prog_1_method_11_code
def yX8_behind : MethodName := ⟨RX8, "behind", "(II)I"⟩
abbrev cX8_done : ByteArray := prog_1_method_12_code
def yX8_done : MethodName := ⟨RX8, "done", "()I"⟩
abbrev cX8_sum : ByteArray := prog_1_method_13_code
def yX8_sum : MethodName := ⟨RX8, "sum", "(I)I"⟩
abbrev cX8_seasonCanBe : ByteArray := prog_1_method_14_code
def yX8_seasonCanBe : MethodName := ⟨RX8, "seasonCanBe", "()Z"⟩
abbrev cX8_mean : ByteArray := prog_1_method_15_code
def yX8_mean : MethodName := ⟨RX8, "mean", "(III)I"⟩
abbrev cX8_worst : ByteArray := prog_1_method_16_code
def yX8_worst : MethodName := ⟨RX8, "worst", "(III)I"⟩
abbrev cX8_choice : ByteArray := prog_1_method_17_code
def yX8_choice : MethodName := ⟨RX8, "choice", "(II)I"⟩
abbrev cX8_held : ByteArray := prog_1_method_18_code
def yX8_held : MethodName := ⟨RX8, "held", "(III)I"⟩
abbrev cX8_bound : ByteArray := prog_1_method_19_code
def yX8_bound : MethodName := ⟨RX8, "bound", "(III)I"⟩
abbrev cX8_line : ByteArray := prog_1_method_20_code
def yX8_line : MethodName := ⟨RX8, "line", "(III)I"⟩
abbrev cX8_convoy : ByteArray := prog_1_method_21_code
def yX8_convoy : MethodName := ⟨RX8, "convoy", "(II)I"⟩
abbrev cX8_captain : ByteArray := prog_1_method_22_code
def yX8_captain : MethodName := ⟨RX8, "captain", "(II)I"⟩
abbrev cX8_persuaded : ByteArray := prog_1_method_23_code
def yX8_persuaded : MethodName := ⟨RX8, "persuaded", "(II)I"⟩
abbrev cX8_offer : ByteArray := prog_1_method_24_code
def yX8_offer : MethodName := ⟨RX8, "offer", "(III)I"⟩
abbrev cX8_noOffers : ByteArray := prog_1_method_25_code
def yX8_noOffers : MethodName := ⟨RX8, "noOffers", "()I"⟩
abbrev cX8_insured : ByteArray := prog_1_method_26_code
def yX8_insured : MethodName := ⟨RX8, "insured", "(III)I"⟩
abbrev cX8_aboard : ByteArray := prog_1_method_27_code
def yX8_aboard : MethodName := ⟨RX8, "aboard", "(II)I"⟩
abbrev cX8_ashore : ByteArray := prog_1_method_28_code
def yX8_ashore : MethodName := ⟨RX8, "ashore", "(I)I"⟩
abbrev cX8_lot : ByteArray := prog_1_method_29_code
def yX8_lot : MethodName := ⟨RX8, "lot", "(III)J"⟩
abbrev cX8_often : ByteArray := prog_1_method_30_code
def yX8_often : MethodName := ⟨RX8, "often", "(IIIII)J"⟩
abbrev cX8_roll : ByteArray := prog_1_method_31_code
def yX8_roll : MethodName := ⟨RX8, "roll", "(II)I"⟩
abbrev cX8_forget : ByteArray := prog_1_method_32_code
def yX8_forget : MethodName := ⟨RX8, "forget", "()I"⟩
abbrev cX8_twice : ByteArray := prog_1_method_33_code
def yX8_twice : MethodName := ⟨RX8, "twice", "(I)I"⟩
abbrev cX8_burnt : ByteArray := prog_1_method_34_code
def yX8_burnt : MethodName := ⟨RX8, "burnt", "()J"⟩
abbrev cX8_years : ByteArray := prog_1_method_35_code
def yX8_years : MethodName := ⟨RX8, "years", "(IIII)I"⟩
abbrev cX8_image : ByteArray := prog_1_method_36_code
def yX8_image : MethodName := ⟨RX8, "image", "(I)I"⟩
abbrev cX8_restore : ByteArray := prog_1_method_37_code
def yX8_restore : MethodName := ⟨RX8, "restore", "(I)I"⟩
abbrev cX8_told : ByteArray := prog_1_method_38_code
def yX8_told : MethodName := ⟨RX8, "told", "(I)I"⟩
abbrev cX8_imageBooks : ByteArray := prog_1_method_39_code
def yX8_imageBooks : MethodName := ⟨RX8, "imageBooks", "(I)LStraitFleet$Books;"⟩
abbrev cX8_refusalOf : ByteArray := prog_1_method_40_code
def yX8_refusalOf : MethodName := ⟨RX8, "refusalOf", "(II)I"⟩
abbrev cX8_within : ByteArray := prog_1_method_41_code
def yX8_within : MethodName := ⟨RX8, "within", "(III)Z"⟩
abbrev cX8_isHour : ByteArray := prog_1_method_42_code
def yX8_isHour : MethodName := ⟨RX8, "isHour", "(I)Z"⟩
abbrev cX8_drawAfter : ByteArray := prog_1_method_43_code
def yX8_drawAfter : MethodName := ⟨RX8, "drawAfter", "(I)I"⟩
abbrev cX8_ways : ByteArray := prog_1_method_44_code
def yX8_ways : MethodName := ⟨RX8, "ways", "(II)J"⟩
abbrev cX8_power : ByteArray := prog_1_method_45_code
def yX8_power : MethodName := ⟨RX8, "power", "(II)J"⟩
abbrev cX8_partOf : ByteArray := prog_1_method_46_code
def yX8_partOf : MethodName := ⟨RX8, "partOf", "(JJI)J"⟩
abbrev cX8_commonDivisor : ByteArray := prog_1_method_47_code
def yX8_commonDivisor : MethodName := ⟨RX8, "commonDivisor", "(JJ)J"⟩
def RX9 : String := "StraitFleetModel"
def TX9 : u_T := fun k => match k with
  | 0 => ("StraitFleetModel", "ships", "I", false)
  | 1 => ("StraitFleetModel", "men", "[I", true)
  | 2 => ("StraitFleetModel", "straw", "[I", true)
  | 3 => ("StraitFleetModel", "cargo", "[I", true)
  | 4 => ("StraitFleetModel", "where", "[I", true)
  | 5 => ("StraitFleetModel", "teeth", "I", false)
  | 6 => ("StraitFleetModel", "life", "I", false)
  | 7 => ("StraitFleetModel", "pay", "I", false)
  | 8 => ("StraitFleetModel", "days", "I", false)
  | 9 => ("StraitFleetModel", "wait", "I", false)
  | 10 => ("StraitFleetModel", "hull", "I", false)
  | 11 => ("StraitFleetModel", "head", "I", false)
  | 12 => ("StraitFleetModel", "x", "I", false)
  | 13 => ("StraitFleetModel", "tide", "[I", true)
  | 14 => ("StraitFleetModel", "digits", "I", false)
  | 15 => ("StraitFleetModel", "lostMen", "I", false)
  | 16 => ("StraitFleetModel", "lostCargo", "I", false)
  | 17 => ("StraitFleetModel", "paid", "I", false)
  | 18 => ("StraitFleetModel", "offers", "I", false)
  | 19 => ("StraitFleetModel", "premium", "[I", true)
  | 20 => ("StraitFleetModel", "pays", "[I", true)
  | 21 => ("StraitFleetModel", "names", "I", false)
  | 22 => ("StraitFleetModel", "drawn", "[I", true)
  | 23 => ("StraitFleetModel", "rollNames", "[I", true)
  | 24 => ("StraitFleetModel", "rollMany", "[I", true)
  | 25 => ("StraitFleetModel", "rolls", "I", false)
  | 26 => ("StraitFleetModel", "pad", "[I", true)
  | 27 => ("StraitFleetModel", "padMany", "I", false)
  | 28 => ("StraitFleetModel", "had", "[I", true)
  | 29 => ("StraitFleetModel", "badPart", "I", false)
  | 30 => ("StraitFleetModel", "badWhy", "I", false)
  | 31 => ("StraitFleetModel", "parts", "I", false)
  | 32 => ("StraitFleetModel", "fleetMean", "[I", true)
  | 33 => ("StraitFleetModel", "fleetWorst", "[I", true)
  | 34 => ("StraitFleetModel", "choices", "I", false)
  | 35 => ("StraitFleetModel", "onLine", "[I", true)
  | 36 => ("StraitFleetModel", "kept", "[I", true)
  | 37 => ("StraitFleetModel", "isKept", "[Z", true)
  | 38 => ("StraitFleetModel", "keptAt", "I", false)
  | _ => ("StraitFleetModel", "isWriting", "Z", false)
def tyX9 : Nat → FieldType := fun k => match k with
  | 0 => .int
  | 1 => .array .int
  | 2 => .array .int
  | 3 => .array .int
  | 4 => .array .int
  | 5 => .int
  | 6 => .int
  | 7 => .int
  | 8 => .int
  | 9 => .int
  | 10 => .int
  | 11 => .int
  | 12 => .int
  | 13 => .array .int
  | 14 => .int
  | 15 => .int
  | 16 => .int
  | 17 => .int
  | 18 => .int
  | 19 => .array .int
  | 20 => .array .int
  | 21 => .int
  | 22 => .array .int
  | 23 => .array .int
  | 24 => .array .int
  | 25 => .int
  | 26 => .array .int
  | 27 => .int
  | 28 => .array .int
  | 29 => .int
  | 30 => .int
  | 31 => .int
  | 32 => .array .int
  | 33 => .array .int
  | 34 => .int
  | 35 => .array .int
  | 36 => .array .int
  | 37 => .array .boolean
  | 38 => .int
  | _ => .boolean
abbrev wsX90 : List Cond := u_ws RX9 TX9 40
theorem nmX9 : ∀ a, a < 40 → ∀ b, b < 40 → a ≠ b → (TX9 a).2.1 ≠ (TX9 b).2.1 := by decide +kernel
theorem tyX9_ok : ∀ k, k < 40 → parseFieldDescriptor (TX9 k).2.2.1 = some (tyX9 k) := by decide +kernel
abbrev cX9_init : ByteArray := prog_11_method_1_code
def yX9_init : MethodName := ⟨RX9, "<init>", "()V"⟩
abbrev cX9_in : ByteArray := prog_11_method_3_code
def yX9_in : MethodName := ⟨RX9, "in", "(JJJ)Z"⟩
abbrev cX9_ones : ByteArray := prog_11_method_4_code
def yX9_ones : MethodName := ⟨RX9, "ones", "(I)I"⟩
abbrev cX9_isNumber : ByteArray := prog_11_method_5_code
def yX9_isNumber : MethodName := ⟨RX9, "isNumber", "(I)Z"⟩
abbrev cX9_isShip : ByteArray := prog_11_method_6_code
def yX9_isShip : MethodName := ⟨RX9, "isShip", "(I)Z"⟩
abbrev cX9_isHour : ByteArray := prog_11_method_7_code
def yX9_isHour : MethodName := ⟨RX9, "isHour", "(I)Z"⟩
abbrev cX9_isSide : ByteArray := prog_11_method_8_code
def yX9_isSide : MethodName := ⟨RX9, "isSide", "(I)Z"⟩
abbrev cX9_ship : ByteArray := prog_11_method_9_code
def yX9_ship : MethodName := ⟨RX9, "ship", "(IIII)I"⟩
abbrev cX9_scrap : ByteArray := prog_11_method_10_code
def yX9_scrap : MethodName := ⟨RX9, "scrap", "(I)I"⟩
abbrev cX9_greatest : ByteArray := prog_11_method_11_code
def yX9_greatest : MethodName := ⟨RX9, "greatest", "(I)I"⟩
abbrev cX9_toldSet : ByteArray := prog_11_method_12_code
def yX9_toldSet : MethodName := ⟨RX9, "toldSet", "(I)I"⟩
abbrev cX9_set : ByteArray := prog_11_method_13_code
def yX9_set : MethodName := ⟨RX9, "set", "(II)I"⟩
abbrev cX9_say : ByteArray := prog_11_method_14_code
def yX9_say : MethodName := ⟨RX9, "say", "(I)I"⟩
abbrev cX9_wipe : ByteArray := prog_11_method_15_code
def yX9_wipe : MethodName := ⟨RX9, "wipe", "()I"⟩
abbrev cX9_faultOfTide : ByteArray := prog_11_method_16_code
def yX9_faultOfTide : MethodName := ⟨RX9, "faultOfTide", "()I"⟩
abbrev cX9_faultOfSeason : ByteArray := prog_11_method_17_code
def yX9_faultOfSeason : MethodName := ⟨RX9, "faultOfSeason", "()I"⟩
abbrev cX9_fault : ByteArray := prog_11_method_18_code
def yX9_fault : MethodName := ⟨RX9, "fault", "(I)I"⟩
abbrev cX9_tide : ByteArray := prog_11_method_19_code
def yX9_tide : MethodName := ⟨RX9, "tide", "()I"⟩
abbrev cX9_tenths : ByteArray := prog_11_method_20_code
def yX9_tenths : MethodName := ⟨RX9, "tenths", "(I)I"⟩
abbrev cX9_lostByTeeth : ByteArray := prog_11_method_21_code
def yX9_lostByTeeth : MethodName := ⟨RX9, "lostByTeeth", "(I)I"⟩
abbrev cX9_goTeeth : ByteArray := prog_11_method_22_code
def yX9_goTeeth : MethodName := ⟨RX9, "goTeeth", "(I)V"⟩
abbrev cX9_goWhirl : ByteArray := prog_11_method_23_code
def yX9_goWhirl : MethodName := ⟨RX9, "goWhirl", "(II)V"⟩
abbrev cX9_goCape : ByteArray := prog_11_method_24_code
def yX9_goCape : MethodName := ⟨RX9, "goCape", "(I)V"⟩
abbrev cX9_keepNow : ByteArray := prog_11_method_25_code
def yX9_keepNow : MethodName := ⟨RX9, "keepNow", "()V"⟩
abbrev cX9_putBack : ByteArray := prog_11_method_26_code
def yX9_putBack : MethodName := ⟨RX9, "putBack", "()V"⟩
abbrev cX9_order : ByteArray := prog_11_method_27_code
def yX9_order : MethodName := ⟨RX9, "order", "(III)V"⟩
abbrev cX9_goSeason : ByteArray := prog_11_method_28_code
def yX9_goSeason : MethodName := ⟨RX9, "goSeason", "()V"⟩
abbrev cX9_judge : ByteArray := prog_11_method_29_code
def yX9_judge : MethodName := ⟨RX9, "judge", "(I)I"⟩
abbrev cX9_stateOf : ByteArray := prog_11_method_30_code
def yX9_stateOf : MethodName := ⟨RX9, "stateOf", "(II)I"⟩
abbrev cX9_state : ByteArray := prog_11_method_31_code
def yX9_state : MethodName := ⟨RX9, "state", "(II)I"⟩
abbrev cX9_behind : ByteArray := prog_11_method_32_code
def yX9_behind : MethodName := ⟨RX9, "behind", "(II)I"⟩
abbrev cX9_done : ByteArray := prog_11_method_33_code
def yX9_done : MethodName := ⟨RX9, "done", "()I"⟩
abbrev cX9_sum : ByteArray := prog_11_method_34_code
def yX9_sum : MethodName := ⟨RX9, "sum", "(I)I"⟩
abbrev cX9_allOf : ByteArray := prog_11_method_35_code
def yX9_allOf : MethodName := ⟨RX9, "allOf", "(I)I"⟩
abbrev cX9_teethTake : ByteArray := prog_11_method_36_code
def yX9_teethTake : MethodName := ⟨RX9, "teethTake", "(I)I"⟩
abbrev cX9_meanOf : ByteArray := prog_11_method_37_code
def yX9_meanOf : MethodName := ⟨RX9, "meanOf", "(III)I"⟩
abbrev cX9_worstOf : ByteArray := prog_11_method_38_code
def yX9_worstOf : MethodName := ⟨RX9, "worstOf", "(III)I"⟩
abbrev cX9_choiceOf : ByteArray := prog_11_method_39_code
def yX9_choiceOf : MethodName := ⟨RX9, "choiceOf", "(II)I"⟩
abbrev cX9_mean : ByteArray := prog_11_method_40_code
def yX9_mean : MethodName := ⟨RX9, "mean", "(III)I"⟩
abbrev cX9_worst : ByteArray := prog_11_method_41_code
def yX9_worst : MethodName := ⟨RX9, "worst", "(III)I"⟩
abbrev cX9_choice : ByteArray := prog_11_method_42_code
def yX9_choice : MethodName := ⟨RX9, "choice", "(II)I"⟩
abbrev cX9_held : ByteArray := prog_11_method_43_code
def yX9_held : MethodName := ⟨RX9, "held", "(III)I"⟩
abbrev cX9_isInHarbour : ByteArray := prog_11_method_44_code
def yX9_isInHarbour : MethodName := ⟨RX9, "isInHarbour", "(I)Z"⟩
abbrev cX9_layFleet : ByteArray := prog_11_method_45_code
def yX9_layFleet : MethodName := ⟨RX9, "layFleet", "(I)V"⟩
abbrev cX9_behindIt : ByteArray := prog_11_method_46_code
def yX9_behindIt : MethodName := ⟨RX9, "behindIt", "(I)I"⟩
abbrev cX9_bound : ByteArray := prog_11_method_47_code
def yX9_bound : MethodName := ⟨RX9, "bound", "(III)I"⟩
abbrev cX9_isOnLine : ByteArray := prog_11_method_48_code
def yX9_isOnLine : MethodName := ⟨RX9, "isOnLine", "(I)Z"⟩
abbrev cX9_line : ByteArray := prog_11_method_49_code
def yX9_line : MethodName := ⟨RX9, "line", "(III)I"⟩
abbrev cX9_lessThan : ByteArray := prog_11_method_50_code
def yX9_lessThan : MethodName := ⟨RX9, "lessThan", "(I)I"⟩
abbrev cX9_convoy : ByteArray := prog_11_method_51_code
def yX9_convoy : MethodName := ⟨RX9, "convoy", "(II)I"⟩
abbrev cX9_gets : ByteArray := prog_11_method_52_code
def yX9_gets : MethodName := ⟨RX9, "gets", "(IIII)I"⟩
abbrev cX9_captainBy : ByteArray := prog_11_method_53_code
def yX9_captainBy : MethodName := ⟨RX9, "captainBy", "(III)I"⟩
abbrev cX9_captain : ByteArray := prog_11_method_54_code
def yX9_captain : MethodName := ⟨RX9, "captain", "(II)I"⟩
abbrev cX9_persuaded : ByteArray := prog_11_method_55_code
def yX9_persuaded : MethodName := ⟨RX9, "persuaded", "(II)I"⟩
abbrev cX9_offer : ByteArray := prog_11_method_56_code
def yX9_offer : MethodName := ⟨RX9, "offer", "(III)I"⟩
abbrev cX9_noOffers : ByteArray := prog_11_method_57_code
def yX9_noOffers : MethodName := ⟨RX9, "noOffers", "()I"⟩
abbrev cX9_premiums : ByteArray := prog_11_method_58_code
def yX9_premiums : MethodName := ⟨RX9, "premiums", "(I)I"⟩
abbrev cX9_got : ByteArray := prog_11_method_59_code
def yX9_got : MethodName := ⟨RX9, "got", "(I)I"⟩
abbrev cX9_insured : ByteArray := prog_11_method_60_code
def yX9_insured : MethodName := ⟨RX9, "insured", "(III)I"⟩
abbrev cX9_isAboard : ByteArray := prog_11_method_61_code
def yX9_isAboard : MethodName := ⟨RX9, "isAboard", "(I)Z"⟩
abbrev cX9_aboard : ByteArray := prog_11_method_62_code
def yX9_aboard : MethodName := ⟨RX9, "aboard", "(II)I"⟩
abbrev cX9_ashore : ByteArray := prog_11_method_63_code
def yX9_ashore : MethodName := ⟨RX9, "ashore", "(I)I"⟩
abbrev cX9_lowest : ByteArray := prog_11_method_64_code
def yX9_lowest : MethodName := ⟨RX9, "lowest", "(JJI)J"⟩
abbrev cX9_lot : ByteArray := prog_11_method_65_code
def yX9_lot : MethodName := ⟨RX9, "lot", "(III)J"⟩
abbrev cX9_choose : ByteArray := prog_11_method_66_code
def yX9_choose : MethodName := ⟨RX9, "choose", "(II)J"⟩
abbrev cX9_power : ByteArray := prog_11_method_67_code
def yX9_power : MethodName := ⟨RX9, "power", "(II)J"⟩
abbrev cX9_often : ByteArray := prog_11_method_68_code
def yX9_often : MethodName := ⟨RX9, "often", "(IIIII)J"⟩
abbrev cX9_roll : ByteArray := prog_11_method_69_code
def yX9_roll : MethodName := ⟨RX9, "roll", "(II)I"⟩
abbrev cX9_forget : ByteArray := prog_11_method_70_code
def yX9_forget : MethodName := ⟨RX9, "forget", "()I"⟩
abbrev cX9_twice : ByteArray := prog_11_method_71_code
def yX9_twice : MethodName := ⟨RX9, "twice", "(I)I"⟩
abbrev cX9_burnt : ByteArray := prog_11_method_72_code
def yX9_burnt : MethodName := ⟨RX9, "burnt", "()J"⟩
abbrev cX9_years : ByteArray := prog_11_method_73_code
def yX9_years : MethodName := ⟨RX9, "years", "(IIII)I"⟩
abbrev cX9_pass : ByteArray := prog_11_method_74_code
def yX9_pass : MethodName := ⟨RX9, "pass", "(I)I"⟩
abbrev cX9_passNumbers : ByteArray := prog_11_method_75_code
def yX9_passNumbers : MethodName := ⟨RX9, "passNumbers", "()V"⟩
abbrev cX9_passAll : ByteArray := prog_11_method_76_code
def yX9_passAll : MethodName := ⟨RX9, "passAll", "()V"⟩
abbrev cX9_image : ByteArray := prog_11_method_77_code
def yX9_image : MethodName := ⟨RX9, "image", "(I)I"⟩
abbrev cX9_restore : ByteArray := prog_11_method_78_code
def yX9_restore : MethodName := ⟨RX9, "restore", "(I)I"⟩
abbrev cX9_toldMany : ByteArray := prog_11_method_79_code
def yX9_toldMany : MethodName := ⟨RX9, "toldMany", "(I)I"⟩
abbrev cX9_told : ByteArray := prog_11_method_80_code
def yX9_told : MethodName := ⟨RX9, "told", "(I)I"⟩
def RJx8e188 : String := "java/lang/Cloneable"
def TJx8e188 : u_T := fun k => match k with
  | _ => ("", "", "", false)
def tyJx8e188 : Nat → FieldType := fun k => match k with
  | _ => .int
abbrev wsJx8e1880 : List Cond := u_ws RJx8e188 TJx8e188 0
theorem nmJx8e188 : ∀ a, a < 0 → ∀ b, b < 0 → a ≠ b → (TJx8e188 a).2.1 ≠ (TJx8e188 b).2.1 := by decide +kernel
theorem tyJx8e188_ok : ∀ k, k < 0 → parseFieldDescriptor (TJx8e188 k).2.2.1 = some (tyJx8e188 k) := by decide +kernel
def RJ6 : String := "java/lang/Integer"
def TJ6 : u_T := fun k => match k with
  | _ => ("", "", "", false)
def tyJ6 : Nat → FieldType := fun k => match k with
  | _ => .int
abbrev wsJ60 : List Cond := u_ws RJ6 TJ6 0
theorem nmJ6 : ∀ a, a < 0 → ∀ b, b < 0 → a ≠ b → (TJ6 a).2.1 ≠ (TJ6 b).2.1 := by decide +kernel
theorem tyJ6_ok : ∀ k, k < 0 → parseFieldDescriptor (TJ6 k).2.2.1 = some (tyJ6 k) := by decide +kernel
abbrev cJ6_bitCount_0f7a4 : ByteArray := prog_13_method_49_code
def yJ6_bitCount_0f7a4 : MethodName := ⟨RJ6, "bitCount", "(I)I"⟩
def RJ9 : String := "java/lang/Math"
def TJ9 : u_T := fun k => match k with
  | _ => ("", "", "", false)
def tyJ9 : Nat → FieldType := fun k => match k with
  | _ => .int
abbrev wsJ90 : List Cond := u_ws RJ9 TJ9 0
theorem nmJ9 : ∀ a, a < 0 → ∀ b, b < 0 → a ≠ b → (TJ9 a).2.1 ≠ (TJ9 b).2.1 := by decide +kernel
theorem tyJ9_ok : ∀ k, k < 0 → parseFieldDescriptor (TJ9 k).2.2.1 = some (tyJ9 k) := by decide +kernel
abbrev cJ9_max_7cf53 : ByteArray := prog_14_method_65_code
def yJ9_max_7cf53 : MethodName := ⟨RJ9, "max", "(II)I"⟩
abbrev cJ9_min_7cf53 : ByteArray := prog_14_method_69_code
def yJ9_min_7cf53 : MethodName := ⟨RJ9, "min", "(II)I"⟩
abbrev cJ9_min_f86c9 : ByteArray := prog_14_method_70_code
def yJ9_min_f86c9 : MethodName := ⟨RJ9, "min", "(JJ)J"⟩
def RJ10 : String := "java/lang/System"
def TJ10 : u_T := fun k => match k with
  | _ => ("", "", "", false)
def tyJ10 : Nat → FieldType := fun k => match k with
  | _ => .int
abbrev wsJ100 : List Cond := u_ws RJ10 TJ10 0
theorem nmJ10 : ∀ a, a < 0 → ∀ b, b < 0 → a ≠ b → (TJ10 a).2.1 ≠ (TJ10 b).2.1 := by decide +kernel
theorem tyJ10_ok : ∀ k, k < 0 → parseFieldDescriptor (TJ10 k).2.2.1 = some (tyJ10 k) := by decide +kernel
def RL : String := "StraitFleetLaw"
abbrev cL_law : ByteArray := code
def yL_law : MethodName := ⟨RL, "law", "([I)Z"⟩
abbrev vwCl : List vw_C := [(RX0, TX0, 4), (RX1, TX1, 2), (RX2, TX2, 6), (RX3, TX3, 3), (RX4, TX4, 2), (RX5, TX5, 3), (RX6, TX6, 9), (RX7, TX7, 3), (RX8, TX8, 7), (RX9, TX9, 40)]
end
section
/-! the words that hold wherever the tables do -/
def zGW : List Cond := lw_tbl.filter goodWord
theorem zGW_in {w : Cond} (i : Nat) (h : lw_tbl[i]? = some w) (hg : goodWord w = true) : w ∈ zGW := List.mem_filter.mpr ⟨List.mem_of_getElem? h, hg⟩
theorem zGW_good {w : Cond} (h : w ∈ zGW) : GoodIn zGW (w :: zGW) := by
  intro v hv
  have hm : v ∈ zGW := by
    rcases List.mem_cons.mp hv with rfl | h1
    · exact h
    · exact h1
  exact ⟨hm, good_of_word (List.mem_filter.mp hm).2⟩
/-! stores: what each cell holds, by its number; kinds of cells are fixed once all is made -/
abbrev zST : Type := (Nat → Nat → Int32) × (Nat → Nat → Int64)
def wI (σ : zST) (a k : Nat) (v : Int32) : zST := (fun b j => if b = a ∧ j = k then v else σ.1 b j, σ.2)
def wL (σ : zST) (a k : Nat) (v : Int64) : zST := (σ.1, fun b j => if b = a ∧ j = k then v else σ.2 b j)
def wRI (σ : zST) (a : Nat) (f : Nat → Int32) : zST := (fun b j => if b = a then f j else σ.1 b j, σ.2)
def wRL (σ : zST) (a : Nat) (f : Nat → Int64) : zST := (σ.1, fun b j => if b = a then f j else σ.2 b j)
abbrev zSh : Type := Nat × Nat × List Nat
abbrev zG : Type := va_G × (Nat → Nat) × (ClassId × ClassId × ClassId)
def zFld (ρ : Nat → Nat) (r : Nat → Int32) : Nat → List Nat → List Value
  | _, [] => []
  | j, 0 :: ts => .int (r j) :: zFld ρ r (j + 1) ts
  | j, (t + 1) :: ts => .ref (ρ t) :: zFld ρ r (j + 1) ts
def zCell (g : zG) (r1 : Nat → Int32) (r2 : Nat → Int64) (q : zSh) : va_E := match q.1 with
  | 0 => .inl (g.2.2.1, q.2.1, .inl r1)
  | 1 => .inl (g.2.2.2.1, q.2.1, .inr (.inl r2))
  | 2 => .inl (g.2.2.2.2, q.2.1, .inl r1)
  | _ => .inr (q.2.1, zFld g.2.1 r1 0 q.2.2)
def zBk (a : Nat) : List zSh := [(3, 0, [a + 2, a + 10, a + 13, a + 15]), (3, 6, [0, a + 3, a + 4, a + 5, a + 6, a + 7, a + 8, 0, a + 9]), (0, 6, []), (0, 6, []), (0, 6, []), (0, 6, []), (0, 8, []), (0, 24, []), (0, 3, []), (3, 3, [0, a + 11, a + 12]), (0, 4, []), (0, 4, []), (3, 1, [0, a + 14]), (0, 8, []), (3, 5, [0, a + 16, a + 17]), (0, 6, []), (0, 6, [])]
def zT : List zSh := [(3, 8, [2, 19, 36, 0, 53, 55, 64])] ++ zBk 1 ++ zBk 18 ++ zBk 35 ++ [(3, 4, [54, 0]), (0, 60, []), (3, 7, [56, 0, 0]), (3, 6, [0, 57, 58, 59, 60, 61, 62, 0, 63]), (0, 6, []), (0, 6, []), (0, 6, []), (0, 6, []), (0, 8, []), (0, 24, []), (0, 3, []), (3, 2, [65, 0, 66, 67, 68, 69]), (0, 6, []), (1, 18, []), (1, 729, []), (1, 729, []), (1, 729, []),
  (3, 9, [0, 71, 72, 73, 74, 0, 0, 0, 0, 0, 0, 0, 0, 75, 0, 0, 0, 0, 0, 76, 77, 0, 78, 79, 80, 0, 81, 0, 82, 0, 0, 0, 83, 84, 0, 85, 86, 87, 0, 0]), (0, 6, []), (0, 6, []), (0, 6, []), (0, 6, []), (0, 24, []), (0, 4, []), (0, 4, []), (0, 8, []), (0, 6, []), (0, 6, []), (0, 60, []), (0, 28, []), (0, 729, []), (0, 729, []), (0, 729, []), (0, 240, []), (2, 2, [])]
theorem zT_len : zT.length = 87 := by decide +kernel
def zW (g : zG) (σ : zST) : va_W := zT.mapIdx (fun k q => (g.2.1 k, zCell g (σ.1 k) (σ.2 k) q))
def zA (g : zG) : Nat → Prop := fun q => ∃ k, k < zT.length ∧ q = g.2.1 k
def zInj (g : zG) : Prop := ∀ i j, i < zT.length → j < zT.length → g.2.1 i = g.2.1 j → i = j
theorem zW_at {g : zG} {σ : zST} {k : Nat} {q : zSh} (h : zT[k]? = some q) : (zW g σ)[k]? = some (g.2.1 k, zCell g (σ.1 k) (σ.2 k) q) := by
  unfold zW
  rw [List.getElem?_mapIdx, h]
  rfl
theorem zW_inv {g : zG} {σ : zST} {k : Nat} {x : Nat × va_E} (h : (zW g σ)[k]? = some x) : ∃ q, zT[k]? = some q ∧ x = (g.2.1 k, zCell g (σ.1 k) (σ.2 k) q) := by
  unfold zW at h
  rw [List.getElem?_mapIdx] at h
  cases hq : zT[k]? with
  | none => rw [hq] at h; cases h
  | some q => rw [hq] at h; exact ⟨q, rfl, (Option.some.inj h).symm⟩
theorem zW_D {g : zG} {σ : zST} (hi : zInj g) : va_D (zA g) (zW g σ) := by
  refine ⟨fun i j p q h1 h2 he => ?_, fun k q h => ?_⟩
  · obtain ⟨q1, e1, rfl⟩ := zW_inv h1
    obtain ⟨q2, e2, rfl⟩ := zW_inv h2
    exact hi i j (List.getElem?_eq_some_iff.mp e1).1 (List.getElem?_eq_some_iff.mp e2).1 he
  · obtain ⟨q1, e1, rfl⟩ := zW_inv h
    exact ⟨k, (List.getElem?_eq_some_iff.mp e1).1, rfl⟩
theorem zW_set {g : zG} {σ σ' : zST} {k : Nat} {q : zSh} {e : va_E} (h : zT[k]? = some q) (he : zCell g (σ'.1 k) (σ'.2 k) q = e) (h1 : ∀ j, j ≠ k → σ'.1 j = σ.1 j) (h2 : ∀ j, j ≠ k → σ'.2 j = σ.2 j) : (zW g σ).set k (g.2.1 k, e) = zW g σ' := by
  apply List.ext_getElem?
  intro j
  have hk : k < (zW g σ).length := (List.getElem?_eq_some_iff.mp (zW_at (g := g) (σ := σ) h)).1
  by_cases hj : j = k
  · subst hj
    rw [List.getElem?_set_self hk, zW_at h, he]
  · rw [List.getElem?_set_ne (fun z => hj z.symm)]
    unfold zW
    rw [List.getElem?_mapIdx, List.getElem?_mapIdx]
    rw [h1 j hj, h2 j hj]
theorem wI_ne {σ : zST} {a k b : Nat} {v : Int32} (h : b ≠ a) : (wI σ a k v).1 b = σ.1 b := by
  funext j
  simp [wI, h]
theorem wI_row {σ : zST} {a k : Nat} {v : Int32} : (wI σ a k v).1 a = upd (σ.1 a) k v := by
  funext j
  simp [wI, upd]
theorem wL_ne {σ : zST} {a k b : Nat} {v : Int64} (h : b ≠ a) : (wL σ a k v).2 b = σ.2 b := by
  funext j
  simp [wL, h]
theorem wL_row {σ : zST} {a k : Nat} {v : Int64} : (wL σ a k v).2 a = vp_updL (σ.2 a) k v := by
  funext j
  simp [wL, vp_updL]
theorem wRI_ne {σ : zST} {a b : Nat} {f : Nat → Int32} (h : b ≠ a) : (wRI σ a f).1 b = σ.1 b := by
  funext j
  simp [wRI, h]
theorem wRI_row {σ : zST} {a : Nat} {f : Nat → Int32} : (wRI σ a f).1 a = f := by
  funext j
  simp [wRI]
theorem wRL_ne {σ : zST} {a b : Nat} {f : Nat → Int64} (h : b ≠ a) : (wRL σ a f).2 b = σ.2 b := by
  funext j
  simp [wRL, h]
theorem wRL_row {σ : zST} {a : Nat} {f : Nat → Int64} : (wRL σ a f).2 a = f := by
  funext j
  simp [wRL]
theorem zFld_int {ρ : Nat → Nat} {r : Nat → Int32} : ∀ (ts : List Nat) (j k : Nat), ts[k]? = some 0 → (zFld ρ r j ts)[k]? = some (.int (r (j + k)))
  | [], j, k, h => by simp at h
  | 0 :: ts, j, 0, h => by simp [zFld]
  | (t + 1) :: ts, j, 0, h => by simp at h
  | 0 :: ts, j, k + 1, h => by
    have := zFld_int (ρ := ρ) (r := r) ts (j + 1) k (by simpa using h)
    simpa [zFld, Nat.add_comm, Nat.add_left_comm] using this
  | (t + 1) :: ts, j, k + 1, h => by
    have := zFld_int (ρ := ρ) (r := r) ts (j + 1) k (by simpa using h)
    simpa [zFld, Nat.add_comm, Nat.add_left_comm] using this
theorem zFld_ref {ρ : Nat → Nat} {r : Nat → Int32} {u : Nat} : ∀ (ts : List Nat) (j k : Nat), ts[k]? = some (u + 1) → (zFld ρ r j ts)[k]? = some (.ref (ρ u))
  | [], j, k, h => by simp at h
  | 0 :: ts, j, 0, h => by simp at h
  | (t + 1) :: ts, j, 0, h => by
    have h1 : t = u := by simpa using h
    subst h1
    simp [zFld]
  | 0 :: ts, j, k + 1, h => by
    have := zFld_ref (ρ := ρ) (r := r) ts (j + 1) k (by simpa using h)
    simpa [zFld] using this
  | (t + 1) :: ts, j, k + 1, h => by
    have := zFld_ref (ρ := ρ) (r := r) ts (j + 1) k (by simpa using h)
    simpa [zFld] using this
theorem zFld_len {ρ : Nat → Nat} {r : Nat → Int32} : ∀ (ts : List Nat) (j : Nat), (zFld ρ r j ts).length = ts.length
  | [], j => rfl
  | 0 :: ts, j => by simp [zFld, zFld_len ts]
  | (t + 1) :: ts, j => by simp [zFld, zFld_len ts]
theorem zFld_off {ρ : Nat → Nat} {r : Nat → Int32} {n : Nat} {v : Int32} : ∀ (ts : List Nat) (j : Nat), n < j → zFld ρ (upd r n v) j ts = zFld ρ r j ts
  | [], j, h => rfl
  | 0 :: ts, j, h => by
    have h1 : ¬ j = n := by omega
    simp [zFld, zFld_off (n := n) (v := v) ts (j + 1) (by omega), upd, h1]
  | (t + 1) :: ts, j, h => by simp [zFld, zFld_off (n := n) (v := v) ts (j + 1) (by omega)]
theorem zFld_set {ρ : Nat → Nat} {r : Nat → Int32} {v : Int32} : ∀ (ts : List Nat) (j k : Nat), ts[k]? = some 0 → (zFld ρ r j ts).set k (.int v) = zFld ρ (upd r (j + k) v) j ts
  | [], j, k, h => by simp at h
  | 0 :: ts, j, 0, h => by
    simp only [zFld, List.set_cons_zero, Nat.add_zero]
    rw [zFld_off ts (j + 1) (by omega)]
    simp [upd]
  | (t + 1) :: ts, j, 0, h => by simp at h
  | 0 :: ts, j, k + 1, h => by
    have := zFld_set (ρ := ρ) (r := r) (v := v) ts (j + 1) k (by simpa using h)
    have h1 : ¬ j = j + (k + 1) := by omega
    have h2 : j + 1 + k = j + (k + 1) := by omega
    rw [h2] at this
    simp [zFld, this, upd, h1]
  | (t + 1) :: ts, j, k + 1, h => by
    have := zFld_set (ρ := ρ) (r := r) (v := v) ts (j + 1) k (by simpa using h)
    have h2 : j + 1 + k = j + (k + 1) := by omega
    rw [h2] at this
    simp [zFld, this]
end
section
/-! the walk's standing: one world, any heap that holds it -/
def zTy (g : zG) : List (ClassId × FieldType) := [(g.2.2.1, .int), (g.2.2.2.1, .long), (g.2.2.2.2, .boolean)]
def zIsN : Cond → Bool
  | .methodLinkNest .. => true
  | _ => false
def zNW : List Cond := lw_tbl.filter zIsN
def zKK (g : zG) (U : State) : Prop := va_K g.1 vwCl (zTy g) U ∧ (∀ w ∈ zNW, va_Nw w U) ∧ zInj g
theorem zNW_in {w : Cond} (i : Nat) (h : lw_tbl[i]? = some w) (hg : zIsN w = true) : w ∈ zNW := List.mem_filter.mpr ⟨List.mem_of_getElem? h, hg⟩
theorem zKK.moved {g : zG} {s U : State} (hW : s.WarmedH U.vm) (h : zKK g s) : zKK g U := by
  refine ⟨va_K.moved hW.alike h.1, fun w hw => ?_, h.2.2⟩
  have h1 := h.2.1 w hw
  have h2 := (List.mem_filter.mp hw).2
  cases w <;> first | (simp [zIsN] at h2; done) | exact va_Nw.warmM hW h1
def zPP (g : zG) (σ : zST) (U : State) : Prop := va_P g.1 vwCl (zW g σ) U.heap ∧ zKK g U
def zBB (g : zG) (σ : zST) (t : State) : Prop := va_P g.1 vwCl (zW g σ) t.heap
theorem zPP.blind {g : zG} {σ : zST} {As : List Value} : FrameBlind (va_Pc As (zPP g σ)) := by
  intro a U f mk h
  obtain ⟨h1, h2, h3, h4, h5⟩ := h
  exact ⟨h1, h2, va_K.moved (u := U) (U := U.calling f mk a) (Vm.Alike.refl U.vm) h3, fun w hw => (by
    have h2 := (List.mem_filter.mp hw).2
    have h9 := h4 w hw
    cases w <;> first | (simp [zIsN] at h2; done) | exact va_Nw.same (u := U) (U := U.calling f mk a) rfl rfl h9), h5⟩
def zCX (p : Program) (R : Room) (s : State) (m : MethodId) (args : Array Value) (meth : Method) (c : Code) (g : zG) (n1 n2 : Nat) (cc : ByteArray) (nL : Nat) (own : String) (F Lc : Nat) : Prop :=
  p.tables.exec = Jvm.exec ∧ c.code = cc ∧ c.maxLocals = nL ∧ s.vm.findClass own = some m.cls ∧ (∀ w ∈ zGW, w.before args s = true) ∧ zKK g s ∧ meth.locks = false ∧ F ≤ R.frames ∧ Lc ≤ R.locals ∧ n1 ≤ R.cells ∧ n2 ≤ R.slots
def zGG (p : Program) (l : Launch) (e : Env) (R : Room) (s : State) (m : MethodId) (args : Array Value) (below : List Frame) (meth : Method) (c : Code) (Q : State → Prop) (g : zG) (n1 n2 nL : Nat) (pc : Nat) (lv : List (Nat × Value)) (st : List Value) (σ : zST) : Prop :=
  ∀ (H : Heap) (locs : List Loc) (ls : Array Slot), va_P g.1 vwCl (zW g σ) H → va_S (zA g) s.heap H locs → lv_has ls nL lv → W p l e R s m args below meth c H locs n1 n2 Q (F0 m pc ls st)
def zLg : List (Nat × Value) → Nat → Option Value
  | [], _ => none
  | (j, v) :: l, i => if j = i then some v else zLg l i
theorem zLg_mem {i : Nat} {v : Value} : ∀ {l : List (Nat × Value)}, zLg l i = some v → (i, v) ∈ l
  | [], h => by simp [zLg] at h
  | (j, w) :: l, h => by
    unfold zLg at h
    by_cases hj : j = i
    · rw [if_pos hj] at h
      subst hj
      rw [Option.some.inj h]
      exact List.mem_cons_self
    · rw [if_neg hj] at h
      exact List.mem_cons_of_mem _ (zLg_mem h)
theorem zLg_at {ls : Array Slot} {nL : Nat} {lv : List (Nat × Value)} {i : Nat} {v : Value} (h : lv_has ls nL lv) (hg : zLg lv i = some v) : ls[i]? = some (.val v) := h.2.2 (i, v) (zLg_mem hg)
section ZR
variable {p : Program} {l : Launch} {e : Env} {R : Room} {s : State} {m : MethodId} {args : Array Value} {below : List Frame} {meth : Method} {c : Code} {Q : State → Prop} {g : zG} {n1 n2 nL F Lc : Nat} {cc : ByteArray} {own : String} {pc : Nat} {lv : List (Nat × Value)} {st : List Value} {σ : zST}
theorem zr_iconst (C : zCX p R s m args meth c g n1 n2 cc nL own F Lc) {n : Int} (v : Int32) (hdg : decode cc pc = .ok (.iconst n, 1)) (hv : Int32.ofInt n = v) (k : zGG p l e R s m args below meth c Q g n1 n2 nL (pc + 1) lv (.int v :: st) σ) : zGG p l e R s m args below meth c Q g n1 n2 nL pc lv st σ :=
  fun H locs ls hP hS hl => lv_iconst C.1 C.2.1 hdg hv (k H locs ls hP hS hl)
theorem zr_bipush (C : zCX p R s m args meth c g n1 n2 cc nL own F Lc) {n : Int} (v : Int32) (hdg : decode cc pc = .ok (.bipush n, 2)) (hv : (Int8.ofInt n).toInt32 = v) (k : zGG p l e R s m args below meth c Q g n1 n2 nL (pc + 2) lv (.int v :: st) σ) : zGG p l e R s m args below meth c Q g n1 n2 nL pc lv st σ :=
  fun H locs ls hP hS hl => lv_bipush C.1 C.2.1 hdg hv (k H locs ls hP hS hl)
theorem zr_sipush (C : zCX p R s m args meth c g n1 n2 cc nL own F Lc) {n : Int} (v : Int32) (hdg : decode cc pc = .ok (.sipush n, 3)) (hv : (Int16.ofInt n).toInt32 = v) (k : zGG p l e R s m args below meth c Q g n1 n2 nL (pc + 3) lv (.int v :: st) σ) : zGG p l e R s m args below meth c Q g n1 n2 nL pc lv st σ :=
  fun H locs ls hP hS hl => lv_sipush C.1 C.2.1 hdg hv (k H locs ls hP hS hl)
theorem zr_lconst (C : zCX p R s m args meth c g n1 n2 cc nL own F Lc) {n : Fin 2} (v : Int64) (hdg : decode cc pc = .ok (.lconst n, 1)) (hv : Int64.ofNat (n : Nat) = v) (k : zGG p l e R s m args below meth c Q g n1 n2 nL (pc + 1) lv (.long v :: st) σ) : zGG p l e R s m args below meth c Q g n1 n2 nL pc lv st σ :=
  fun H locs ls hP hS hl => lv_lconst C.1 C.2.1 hdg hv (k H locs ls hP hS hl)
theorem zr_ldc (C : zCX p R s m args meth c g n1 n2 cc nL own F Lc) {index : Nat} {v : Int32} (hw : Cond.constant own index v ∈ zGW) (hdg : decode cc pc = .ok (.ldc index, 2)) (k : zGG p l e R s m args below meth c Q g n1 n2 nL (pc + 2) lv (.int v :: st) σ) : zGG p l e R s m args below meth c Q g n1 n2 nL pc lv st σ :=
  fun H locs ls hP hS hl => lv_ldc C.1 C.2.1 C.2.2.2.1 (C.2.2.2.2.1 _ hw) hdg (k H locs ls hP hS hl)
theorem zr_ldcw (C : zCX p R s m args meth c g n1 n2 cc nL own F Lc) {index : Nat} {v : Int32} (hw : Cond.constant own index v ∈ zGW) (hdg : decode cc pc = .ok (.ldc_w index, 3)) (k : zGG p l e R s m args below meth c Q g n1 n2 nL (pc + 3) lv (.int v :: st) σ) : zGG p l e R s m args below meth c Q g n1 n2 nL pc lv st σ :=
  fun H locs ls hP hS hl => lv_ldcw C.1 C.2.1 C.2.2.2.1 (C.2.2.2.2.1 _ hw) hdg (k H locs ls hP hS hl)
theorem zr_ldc2 (C : zCX p R s m args meth c g n1 n2 cc nL own F Lc) {index : Nat} {v : Int64} (hw : Cond.constantLong own index v ∈ zGW) (hdg : decode cc pc = .ok (.ldc2_w index, 3)) (k : zGG p l e R s m args below meth c Q g n1 n2 nL (pc + 3) lv (.long v :: st) σ) : zGG p l e R s m args below meth c Q g n1 n2 nL pc lv st σ :=
  fun H locs ls hP hS hl => lv_ldc2 C.1 C.2.1 C.2.2.2.1 (C.2.2.2.2.1 _ hw) hdg (k H locs ls hP hS hl)
theorem zr_iload_n (C : zCX p R s m args meth c g n1 n2 cc nL own F Lc) {k : Fin 4} {x : Int32} (hdg : decode cc pc = .ok (.iload_n k, 1)) (hg : zLg lv (k : Nat) = some (.int x)) (kk : zGG p l e R s m args below meth c Q g n1 n2 nL (pc + 1) lv (.int x :: st) σ) : zGG p l e R s m args below meth c Q g n1 n2 nL pc lv st σ :=
  fun H locs ls hP hS hl => lv_iload_n C.1 C.2.1 hdg rfl (zLg_at hl hg) (kk H locs ls hP hS hl)
theorem zr_iload (C : zCX p R s m args meth c g n1 n2 cc nL own F Lc) {k : Nat} {x : Int32} (hdg : decode cc pc = .ok (.iload k, 2)) (hg : zLg lv k = some (.int x)) (kk : zGG p l e R s m args below meth c Q g n1 n2 nL (pc + 2) lv (.int x :: st) σ) : zGG p l e R s m args below meth c Q g n1 n2 nL pc lv st σ :=
  fun H locs ls hP hS hl => lv_iload C.1 C.2.1 hdg (zLg_at hl hg) (kk H locs ls hP hS hl)
theorem zr_lload_n (C : zCX p R s m args meth c g n1 n2 cc nL own F Lc) {k : Fin 4} {x : Int64} (hdg : decode cc pc = .ok (.lload_n k, 1)) (hg : zLg lv (k : Nat) = some (.long x)) (kk : zGG p l e R s m args below meth c Q g n1 n2 nL (pc + 1) lv (.long x :: st) σ) : zGG p l e R s m args below meth c Q g n1 n2 nL pc lv st σ :=
  fun H locs ls hP hS hl => lv_lload_n C.1 C.2.1 hdg rfl (zLg_at hl hg) (kk H locs ls hP hS hl)
theorem zr_lload (C : zCX p R s m args meth c g n1 n2 cc nL own F Lc) {k : Nat} {x : Int64} (hdg : decode cc pc = .ok (.lload k, 2)) (hg : zLg lv k = some (.long x)) (kk : zGG p l e R s m args below meth c Q g n1 n2 nL (pc + 2) lv (.long x :: st) σ) : zGG p l e R s m args below meth c Q g n1 n2 nL pc lv st σ :=
  fun H locs ls hP hS hl => lv_lload C.1 C.2.1 hdg (zLg_at hl hg) (kk H locs ls hP hS hl)
theorem zr_aload_n (C : zCX p R s m args meth c g n1 n2 cc nL own F Lc) {k : Fin 4} {x : Nat} (hdg : decode cc pc = .ok (.aload_n k, 1)) (hg : zLg lv (k : Nat) = some (.ref x)) (kk : zGG p l e R s m args below meth c Q g n1 n2 nL (pc + 1) lv (.ref x :: st) σ) : zGG p l e R s m args below meth c Q g n1 n2 nL pc lv st σ :=
  fun H locs ls hP hS hl => lv_aload_n C.1 C.2.1 hdg rfl (zLg_at hl hg) (kk H locs ls hP hS hl)
theorem zr_aload (C : zCX p R s m args meth c g n1 n2 cc nL own F Lc) {k : Nat} {x : Nat} (hdg : decode cc pc = .ok (.aload k, 2)) (hg : zLg lv k = some (.ref x)) (kk : zGG p l e R s m args below meth c Q g n1 n2 nL (pc + 2) lv (.ref x :: st) σ) : zGG p l e R s m args below meth c Q g n1 n2 nL pc lv st σ :=
  fun H locs ls hP hS hl => lv_aload C.1 C.2.1 hdg (zLg_at hl hg) (kk H locs ls hP hS hl)
abbrev zLs1 (lv : List (Nat × Value)) (i : Nat) (v : Value) : List (Nat × Value) := (i, v) :: lv.filter (fun q => !(q.1 == i) && !(q.1 + 1 == i && q.2.category == 2))
abbrev zLs2 (lv : List (Nat × Value)) (i : Nat) (v : Value) : List (Nat × Value) := (i, v) :: lv.filter (fun q => !(q.1 == i) && (!(q.1 == i + 1) && !(q.1 + 1 == i && q.2.category == 2)))
theorem zr_istore_n (C : zCX p R s m args meth c g n1 n2 cc nL own F Lc) {k : Fin 4} {x : Int32} (lv' : List (Nat × Value)) (hdg : decode cc pc = .ok (.istore_n k, 1)) (hn : (k : Nat) < nL) (hv : zLs1 lv (k : Nat) (.int x) = lv') (kk : zGG p l e R s m args below meth c Q g n1 n2 nL (pc + 1) lv' st σ) : zGG p l e R s m args below meth c Q g n1 n2 nL pc lv (.int x :: st) σ :=
  fun H locs ls hP hS hl => lv_istore_n C.1 C.2.1 hdg rfl hl hn hv (fun ls' hl' => kk H locs ls' hP hS hl')
theorem zr_istore (C : zCX p R s m args meth c g n1 n2 cc nL own F Lc) {k : Nat} {x : Int32} (lv' : List (Nat × Value)) (hdg : decode cc pc = .ok (.istore k, 2)) (hn : k < nL) (hv : zLs1 lv k (.int x) = lv') (kk : zGG p l e R s m args below meth c Q g n1 n2 nL (pc + 2) lv' st σ) : zGG p l e R s m args below meth c Q g n1 n2 nL pc lv (.int x :: st) σ :=
  fun H locs ls hP hS hl => lv_istore C.1 C.2.1 hdg hl hn hv (fun ls' hl' => kk H locs ls' hP hS hl')
theorem zr_lstore_n (C : zCX p R s m args meth c g n1 n2 cc nL own F Lc) {k : Fin 4} {x : Int64} (lv' : List (Nat × Value)) (hdg : decode cc pc = .ok (.lstore_n k, 1)) (hn : (k : Nat) + 1 < nL) (hv : zLs2 lv (k : Nat) (.long x) = lv') (kk : zGG p l e R s m args below meth c Q g n1 n2 nL (pc + 1) lv' st σ) : zGG p l e R s m args below meth c Q g n1 n2 nL pc lv (.long x :: st) σ :=
  fun H locs ls hP hS hl => lv_lstore_n C.1 C.2.1 hdg rfl hl hn hv (fun ls' hl' => kk H locs ls' hP hS hl')
theorem zr_lstore (C : zCX p R s m args meth c g n1 n2 cc nL own F Lc) {k : Nat} {x : Int64} (lv' : List (Nat × Value)) (hdg : decode cc pc = .ok (.lstore k, 2)) (hn : k + 1 < nL) (hv : zLs2 lv k (.long x) = lv') (kk : zGG p l e R s m args below meth c Q g n1 n2 nL (pc + 2) lv' st σ) : zGG p l e R s m args below meth c Q g n1 n2 nL pc lv (.long x :: st) σ :=
  fun H locs ls hP hS hl => lv_lstore C.1 C.2.1 hdg hl hn hv (fun ls' hl' => kk H locs ls' hP hS hl')
theorem zr_astore_n (C : zCX p R s m args meth c g n1 n2 cc nL own F Lc) {k : Fin 4} {x : Nat} (lv' : List (Nat × Value)) (hdg : decode cc pc = .ok (.astore_n k, 1)) (hn : (k : Nat) < nL) (hv : zLs1 lv (k : Nat) (.ref x) = lv') (kk : zGG p l e R s m args below meth c Q g n1 n2 nL (pc + 1) lv' st σ) : zGG p l e R s m args below meth c Q g n1 n2 nL pc lv (.ref x :: st) σ :=
  fun H locs ls hP hS hl => lv_astore_n C.1 C.2.1 hdg rfl hl hn hv (fun ls' hl' => kk H locs ls' hP hS hl')
theorem zr_astore (C : zCX p R s m args meth c g n1 n2 cc nL own F Lc) {k : Nat} {x : Nat} (lv' : List (Nat × Value)) (hdg : decode cc pc = .ok (.astore k, 2)) (hn : k < nL) (hv : zLs1 lv k (.ref x) = lv') (kk : zGG p l e R s m args below meth c Q g n1 n2 nL (pc + 2) lv' st σ) : zGG p l e R s m args below meth c Q g n1 n2 nL pc lv (.ref x :: st) σ :=
  fun H locs ls hP hS hl => lv_astore C.1 C.2.1 hdg hl hn hv (fun ls' hl' => kk H locs ls' hP hS hl')
theorem zLg_ix {i : Nat} {v : Value} {l : List (Nat × Value)} (h : zLg l i = some v) : ∃ k : Nat, l[k]? = some (i, v) := List.getElem?_of_mem (zLg_mem h)
theorem zr_iinc (C : zCX p R s m args meth c g n1 n2 cc nL own F Lc) {k : Nat} {n : Int} {x : Int32} (v : Int32) (lv' : List (Nat × Value)) (hdg : decode cc pc = .ok (.iinc k n, 3)) (hg : zLg lv k = some (.int x)) (hx : x + Int32.ofInt n = v) (hn : k < nL) (hv : zLs1 lv k (.int v) = lv') (kk : zGG p l e R s m args below meth c Q g n1 n2 nL (pc + 3) lv' st σ) : zGG p l e R s m args below meth c Q g n1 n2 nL pc lv st σ := by
  intro H locs ls hP hS hl
  obtain ⟨j, hj⟩ := zLg_ix hg
  exact lv_iinc C.1 C.2.1 hdg hl hj hx hn hv (fun ls' hl' => kk H locs ls' hP hS hl')
theorem zr_iadd (C : zCX p R s m args meth c g n1 n2 cc nL own F Lc) {x y : Int32} (hdg : decode cc pc = .ok (.iadd, 1)) (k : zGG p l e R s m args below meth c Q g n1 n2 nL (pc + 1) lv (.int (x + y) :: st) σ) : zGG p l e R s m args below meth c Q g n1 n2 nL pc lv (.int y :: .int x :: st) σ :=
  fun H locs ls hP hS hl => lv_iadd C.1 C.2.1 hdg (k H locs ls hP hS hl)
theorem zr_isub (C : zCX p R s m args meth c g n1 n2 cc nL own F Lc) {x y : Int32} (hdg : decode cc pc = .ok (.isub, 1)) (k : zGG p l e R s m args below meth c Q g n1 n2 nL (pc + 1) lv (.int (x - y) :: st) σ) : zGG p l e R s m args below meth c Q g n1 n2 nL pc lv (.int y :: .int x :: st) σ :=
  fun H locs ls hP hS hl => lv_isub C.1 C.2.1 hdg (k H locs ls hP hS hl)
theorem zr_imul (C : zCX p R s m args meth c g n1 n2 cc nL own F Lc) {x y : Int32} (hdg : decode cc pc = .ok (.imul, 1)) (k : zGG p l e R s m args below meth c Q g n1 n2 nL (pc + 1) lv (.int (x * y) :: st) σ) : zGG p l e R s m args below meth c Q g n1 n2 nL pc lv (.int y :: .int x :: st) σ :=
  fun H locs ls hP hS hl => lv_imul C.1 C.2.1 hdg (k H locs ls hP hS hl)
theorem zr_iand (C : zCX p R s m args meth c g n1 n2 cc nL own F Lc) {x y : Int32} (hdg : decode cc pc = .ok (.iand, 1)) (k : zGG p l e R s m args below meth c Q g n1 n2 nL (pc + 1) lv (.int (x &&& y) :: st) σ) : zGG p l e R s m args below meth c Q g n1 n2 nL pc lv (.int y :: .int x :: st) σ :=
  fun H locs ls hP hS hl => lv_iand C.1 C.2.1 hdg (k H locs ls hP hS hl)
theorem zr_ior (C : zCX p R s m args meth c g n1 n2 cc nL own F Lc) {x y : Int32} (hdg : decode cc pc = .ok (.ior, 1)) (k : zGG p l e R s m args below meth c Q g n1 n2 nL (pc + 1) lv (.int (x ||| y) :: st) σ) : zGG p l e R s m args below meth c Q g n1 n2 nL pc lv (.int y :: .int x :: st) σ :=
  fun H locs ls hP hS hl => lv_ior C.1 C.2.1 hdg (k H locs ls hP hS hl)
theorem zr_ixor (C : zCX p R s m args meth c g n1 n2 cc nL own F Lc) {x y : Int32} (hdg : decode cc pc = .ok (.ixor, 1)) (k : zGG p l e R s m args below meth c Q g n1 n2 nL (pc + 1) lv (.int (x ^^^ y) :: st) σ) : zGG p l e R s m args below meth c Q g n1 n2 nL pc lv (.int y :: .int x :: st) σ :=
  fun H locs ls hP hS hl => lv_ixor C.1 C.2.1 hdg (k H locs ls hP hS hl)
theorem zr_ishl (C : zCX p R s m args meth c g n1 n2 cc nL own F Lc) {x y : Int32} (hdg : decode cc pc = .ok (.ishl, 1)) (k : zGG p l e R s m args below meth c Q g n1 n2 nL (pc + 1) lv (.int (x <<< (y &&& 31)) :: st) σ) : zGG p l e R s m args below meth c Q g n1 n2 nL pc lv (.int y :: .int x :: st) σ :=
  fun H locs ls hP hS hl => lv_ishl C.1 C.2.1 hdg (k H locs ls hP hS hl)
theorem zr_ishr (C : zCX p R s m args meth c g n1 n2 cc nL own F Lc) {x y : Int32} (hdg : decode cc pc = .ok (.ishr, 1)) (k : zGG p l e R s m args below meth c Q g n1 n2 nL (pc + 1) lv (.int (x >>> (y &&& 31)) :: st) σ) : zGG p l e R s m args below meth c Q g n1 n2 nL pc lv (.int y :: .int x :: st) σ :=
  fun H locs ls hP hS hl => lv_ishr C.1 C.2.1 hdg (k H locs ls hP hS hl)
theorem zr_iushr (C : zCX p R s m args meth c g n1 n2 cc nL own F Lc) {x y : Int32} (hdg : decode cc pc = .ok (.iushr, 1)) (k : zGG p l e R s m args below meth c Q g n1 n2 nL (pc + 1) lv (.int (x.toUInt32 >>> (y.toUInt32 &&& Int32.toUInt32 31)).toInt32 :: st) σ) : zGG p l e R s m args below meth c Q g n1 n2 nL pc lv (.int y :: .int x :: st) σ :=
  fun H locs ls hP hS hl => lv_iushr C.1 C.2.1 hdg rfl (k H locs ls hP hS hl)
theorem zr_idiv (C : zCX p R s m args meth c g n1 n2 cc nL own F Lc) {x y : Int32} (hdg : decode cc pc = .ok (.idiv, 1)) (hne : ¬ y = 0) (k : zGG p l e R s m args below meth c Q g n1 n2 nL (pc + 1) lv (.int (x / y) :: st) σ) : zGG p l e R s m args below meth c Q g n1 n2 nL pc lv (.int y :: .int x :: st) σ :=
  fun H locs ls hP hS hl => lv_idiv C.1 C.2.1 hdg hne (k H locs ls hP hS hl)
theorem zr_irem (C : zCX p R s m args meth c g n1 n2 cc nL own F Lc) {x y : Int32} (hdg : decode cc pc = .ok (.irem, 1)) (hne : ¬ y = 0) (k : zGG p l e R s m args below meth c Q g n1 n2 nL (pc + 1) lv (.int (x - x / y * y) :: st) σ) : zGG p l e R s m args below meth c Q g n1 n2 nL pc lv (.int y :: .int x :: st) σ :=
  fun H locs ls hP hS hl => lv_irem C.1 C.2.1 hdg hne (k H locs ls hP hS hl)
theorem zr_ladd (C : zCX p R s m args meth c g n1 n2 cc nL own F Lc) {x y : Int64} (hdg : decode cc pc = .ok (.ladd, 1)) (k : zGG p l e R s m args below meth c Q g n1 n2 nL (pc + 1) lv (.long (x + y) :: st) σ) : zGG p l e R s m args below meth c Q g n1 n2 nL pc lv (.long y :: .long x :: st) σ :=
  fun H locs ls hP hS hl => lv_ladd C.1 C.2.1 hdg (k H locs ls hP hS hl)
theorem zr_lmul (C : zCX p R s m args meth c g n1 n2 cc nL own F Lc) {x y : Int64} (hdg : decode cc pc = .ok (.lmul, 1)) (k : zGG p l e R s m args below meth c Q g n1 n2 nL (pc + 1) lv (.long (x * y) :: st) σ) : zGG p l e R s m args below meth c Q g n1 n2 nL pc lv (.long y :: .long x :: st) σ :=
  fun H locs ls hP hS hl => lv_lmul C.1 C.2.1 hdg (k H locs ls hP hS hl)
theorem zr_ldiv (C : zCX p R s m args meth c g n1 n2 cc nL own F Lc) {x y : Int64} (hdg : decode cc pc = .ok (.ldiv, 1)) (hne : ¬ y = 0) (k : zGG p l e R s m args below meth c Q g n1 n2 nL (pc + 1) lv (.long (x / y) :: st) σ) : zGG p l e R s m args below meth c Q g n1 n2 nL pc lv (.long y :: .long x :: st) σ :=
  fun H locs ls hP hS hl => lv_ldiv C.1 C.2.1 hdg hne (k H locs ls hP hS hl)
theorem zr_lrem (C : zCX p R s m args meth c g n1 n2 cc nL own F Lc) {x y : Int64} (hdg : decode cc pc = .ok (.lrem, 1)) (hne : ¬ y = 0) (k : zGG p l e R s m args below meth c Q g n1 n2 nL (pc + 1) lv (.long (x - x / y * y) :: st) σ) : zGG p l e R s m args below meth c Q g n1 n2 nL pc lv (.long y :: .long x :: st) σ :=
  fun H locs ls hP hS hl => lv_lrem C.1 C.2.1 hdg hne (k H locs ls hP hS hl)
theorem zr_lshl (C : zCX p R s m args meth c g n1 n2 cc nL own F Lc) {x : Int64} {y : Int32} (hdg : decode cc pc = .ok (.lshl, 1)) (k : zGG p l e R s m args below meth c Q g n1 n2 nL (pc + 1) lv (.long (x <<< (y.toInt64 &&& 63)) :: st) σ) : zGG p l e R s m args below meth c Q g n1 n2 nL pc lv (.int y :: .long x :: st) σ :=
  fun H locs ls hP hS hl => lv_lshl C.1 C.2.1 hdg rfl (k H locs ls hP hS hl)
theorem zr_lshr (C : zCX p R s m args meth c g n1 n2 cc nL own F Lc) {x : Int64} {y : Int32} (hdg : decode cc pc = .ok (.lshr, 1)) (k : zGG p l e R s m args below meth c Q g n1 n2 nL (pc + 1) lv (.long (x >>> (y.toInt64 &&& 63)) :: st) σ) : zGG p l e R s m args below meth c Q g n1 n2 nL pc lv (.int y :: .long x :: st) σ :=
  fun H locs ls hP hS hl => lv_lshr C.1 C.2.1 hdg rfl (k H locs ls hP hS hl)
theorem zr_i2l (C : zCX p R s m args meth c g n1 n2 cc nL own F Lc) {x : Int32} (hdg : decode cc pc = .ok (.i2l, 1)) (k : zGG p l e R s m args below meth c Q g n1 n2 nL (pc + 1) lv (.long x.toInt64 :: st) σ) : zGG p l e R s m args below meth c Q g n1 n2 nL pc lv (.int x :: st) σ :=
  fun H locs ls hP hS hl => lv_i2l C.1 C.2.1 hdg rfl (k H locs ls hP hS hl)
theorem zr_l2i (C : zCX p R s m args meth c g n1 n2 cc nL own F Lc) {x : Int64} (hdg : decode cc pc = .ok (.l2i, 1)) (k : zGG p l e R s m args below meth c Q g n1 n2 nL (pc + 1) lv (.int x.toInt32 :: st) σ) : zGG p l e R s m args below meth c Q g n1 n2 nL pc lv (.long x :: st) σ :=
  fun H locs ls hP hS hl => lv_l2i C.1 C.2.1 hdg rfl (k H locs ls hP hS hl)
theorem zr_lcmp (C : zCX p R s m args meth c g n1 n2 cc nL own F Lc) {x y : Int64} (hdg : decode cc pc = .ok (.lcmp, 1)) (k : zGG p l e R s m args below meth c Q g n1 n2 nL (pc + 1) lv (.int (lg_cmp x y) :: st) σ) : zGG p l e R s m args below meth c Q g n1 n2 nL pc lv (.long y :: .long x :: st) σ :=
  fun H locs ls hP hS hl => W.lcmp C.1 C.2.1 hdg (k H locs ls hP hS hl)
theorem zr_dup (C : zCX p R s m args meth c g n1 n2 cc nL own F Lc) {v : Value} (hdg : decode cc pc = .ok (.dup, 1)) (hc : v.category = 1) (k : zGG p l e R s m args below meth c Q g n1 n2 nL (pc + 1) lv (v :: v :: st) σ) : zGG p l e R s m args below meth c Q g n1 n2 nL pc lv (v :: st) σ :=
  fun H locs ls hP hS hl => lv_dup C.1 C.2.1 hdg hc (k H locs ls hP hS hl)
theorem zr_dup2 (C : zCX p R s m args meth c g n1 n2 cc nL own F Lc) {v w : Value} (hdg : decode cc pc = .ok (.dup2, 1)) (hc : v.category = 1) (hd : w.category = 1) (k : zGG p l e R s m args below meth c Q g n1 n2 nL (pc + 1) lv (v :: w :: v :: w :: st) σ) : zGG p l e R s m args below meth c Q g n1 n2 nL pc lv (v :: w :: st) σ :=
  fun H locs ls hP hS hl => lv_dup2_11 C.1 C.2.1 hdg hc hd (k H locs ls hP hS hl)
theorem zr_pop (C : zCX p R s m args meth c g n1 n2 cc nL own F Lc) {v : Value} (hdg : decode cc pc = .ok (.pop, 1)) (hc : v.category = 1) (k : zGG p l e R s m args below meth c Q g n1 n2 nL (pc + 1) lv st σ) : zGG p l e R s m args below meth c Q g n1 n2 nL pc lv (v :: st) σ :=
  fun H locs ls hP hS hl => lv_pop C.1 C.2.1 hdg hc (k H locs ls hP hS hl)
theorem zr_pop2 (C : zCX p R s m args meth c g n1 n2 cc nL own F Lc) {v : Value} (hdg : decode cc pc = .ok (.pop2, 1)) (hc : v.category = 2) (k : zGG p l e R s m args below meth c Q g n1 n2 nL (pc + 1) lv st σ) : zGG p l e R s m args below meth c Q g n1 n2 nL pc lv (v :: st) σ :=
  fun H locs ls hP hS hl => lv_pop2_2 C.1 C.2.1 hdg hc (k H locs ls hP hS hl)
theorem zr_goto (C : zCX p R s m args meth c g n1 n2 cc nL own F Lc) {off : Int} (tgt : Nat) (hdg : decode cc pc = .ok (.goto off, 3)) (ht : (pc : Int) + off = (tgt : Int)) (k : zGG p l e R s m args below meth c Q g n1 n2 nL tgt lv st σ) : zGG p l e R s m args below meth c Q g n1 n2 nL pc lv st σ :=
  fun H locs ls hP hS hl => lv_goto C.1 C.2.1 hdg ht (k H locs ls hP hS hl)
theorem zr_topi {x : Int32} (k : ∀ y : Int32, y = x → zGG p l e R s m args below meth c Q g n1 n2 nL pc lv (.int y :: st) σ) : zGG p l e R s m args below meth c Q g n1 n2 nL pc lv (.int x :: st) σ := k x rfl
theorem zr_topl {x : Int64} (k : ∀ y : Int64, y = x → zGG p l e R s m args below meth c Q g n1 n2 nL pc lv (.long y :: st) σ) : zGG p l e R s m args below meth c Q g n1 n2 nL pc lv (.long x :: st) σ := k x rfl
theorem zr_sub (k : zGG p l e R s m args below meth c Q g n1 n2 nL pc lv st σ) {lv2 : List (Nat × Value)} (h : ∀ q ∈ lv, q ∈ lv2) : zGG p l e R s m args below meth c Q g n1 n2 nL pc lv2 st σ :=
  fun H locs ls hP hS hl => k H locs ls hP hS ⟨hl.1, hl.2.1, fun q hq => hl.2.2 q (h q hq)⟩
theorem zr_icmp_eq (C : zCX p R s m args meth c g n1 n2 cc nL own F Lc) {x y : Int32} {off : Int} (tgt : Nat) (hdg : decode cc pc = .ok (.if_icmp .eq off, 3)) (ht : (pc : Int) + off = (tgt : Int)) (kt : x = y → zGG p l e R s m args below meth c Q g n1 n2 nL tgt lv st σ) (kf : ¬ x = y → zGG p l e R s m args below meth c Q g n1 n2 nL (pc + 3) lv st σ) : zGG p l e R s m args below meth c Q g n1 n2 nL pc lv (.int y :: .int x :: st) σ :=
  fun H locs ls hP hS hl => lv_icmp_eq C.1 C.2.1 hdg ht (fun h => kt h H locs ls hP hS hl) (fun h => kf h H locs ls hP hS hl)
theorem zr_if_eq (C : zCX p R s m args meth c g n1 n2 cc nL own F Lc) {x : Int32} {off : Int} (tgt : Nat) (hdg : decode cc pc = .ok (.ifCond .eq off, 3)) (ht : (pc : Int) + off = (tgt : Int)) (kt : x = 0 → zGG p l e R s m args below meth c Q g n1 n2 nL tgt lv st σ) (kf : ¬ x = 0 → zGG p l e R s m args below meth c Q g n1 n2 nL (pc + 3) lv st σ) : zGG p l e R s m args below meth c Q g n1 n2 nL pc lv (.int x :: st) σ :=
  fun H locs ls hP hS hl => lv_if_eq C.1 C.2.1 hdg ht (fun h => kt h H locs ls hP hS hl) (fun h => kf h H locs ls hP hS hl)
theorem zr_icmp_ne (C : zCX p R s m args meth c g n1 n2 cc nL own F Lc) {x y : Int32} {off : Int} (tgt : Nat) (hdg : decode cc pc = .ok (.if_icmp .ne off, 3)) (ht : (pc : Int) + off = (tgt : Int)) (kt : ¬ x = y → zGG p l e R s m args below meth c Q g n1 n2 nL tgt lv st σ) (kf : x = y → zGG p l e R s m args below meth c Q g n1 n2 nL (pc + 3) lv st σ) : zGG p l e R s m args below meth c Q g n1 n2 nL pc lv (.int y :: .int x :: st) σ :=
  fun H locs ls hP hS hl => lv_icmp_ne C.1 C.2.1 hdg ht (fun h => kt h H locs ls hP hS hl) (fun h => kf h H locs ls hP hS hl)
theorem zr_if_ne (C : zCX p R s m args meth c g n1 n2 cc nL own F Lc) {x : Int32} {off : Int} (tgt : Nat) (hdg : decode cc pc = .ok (.ifCond .ne off, 3)) (ht : (pc : Int) + off = (tgt : Int)) (kt : ¬ x = 0 → zGG p l e R s m args below meth c Q g n1 n2 nL tgt lv st σ) (kf : x = 0 → zGG p l e R s m args below meth c Q g n1 n2 nL (pc + 3) lv st σ) : zGG p l e R s m args below meth c Q g n1 n2 nL pc lv (.int x :: st) σ :=
  fun H locs ls hP hS hl => lv_if_ne C.1 C.2.1 hdg ht (fun h => kt h H locs ls hP hS hl) (fun h => kf h H locs ls hP hS hl)
theorem zr_icmp_lt (C : zCX p R s m args meth c g n1 n2 cc nL own F Lc) {x y : Int32} {off : Int} (tgt : Nat) (hdg : decode cc pc = .ok (.if_icmp .lt off, 3)) (ht : (pc : Int) + off = (tgt : Int)) (kt : x < y → zGG p l e R s m args below meth c Q g n1 n2 nL tgt lv st σ) (kf : ¬ x < y → zGG p l e R s m args below meth c Q g n1 n2 nL (pc + 3) lv st σ) : zGG p l e R s m args below meth c Q g n1 n2 nL pc lv (.int y :: .int x :: st) σ :=
  fun H locs ls hP hS hl => lv_icmp_lt C.1 C.2.1 hdg ht (fun h => kt h H locs ls hP hS hl) (fun h => kf h H locs ls hP hS hl)
theorem zr_if_lt (C : zCX p R s m args meth c g n1 n2 cc nL own F Lc) {x : Int32} {off : Int} (tgt : Nat) (hdg : decode cc pc = .ok (.ifCond .lt off, 3)) (ht : (pc : Int) + off = (tgt : Int)) (kt : x < 0 → zGG p l e R s m args below meth c Q g n1 n2 nL tgt lv st σ) (kf : ¬ x < 0 → zGG p l e R s m args below meth c Q g n1 n2 nL (pc + 3) lv st σ) : zGG p l e R s m args below meth c Q g n1 n2 nL pc lv (.int x :: st) σ :=
  fun H locs ls hP hS hl => lv_if_lt C.1 C.2.1 hdg ht (fun h => kt h H locs ls hP hS hl) (fun h => kf h H locs ls hP hS hl)
theorem zr_icmp_ge (C : zCX p R s m args meth c g n1 n2 cc nL own F Lc) {x y : Int32} {off : Int} (tgt : Nat) (hdg : decode cc pc = .ok (.if_icmp .ge off, 3)) (ht : (pc : Int) + off = (tgt : Int)) (kt : y ≤ x → zGG p l e R s m args below meth c Q g n1 n2 nL tgt lv st σ) (kf : ¬ y ≤ x → zGG p l e R s m args below meth c Q g n1 n2 nL (pc + 3) lv st σ) : zGG p l e R s m args below meth c Q g n1 n2 nL pc lv (.int y :: .int x :: st) σ :=
  fun H locs ls hP hS hl => lv_icmp_ge C.1 C.2.1 hdg ht (fun h => kt h H locs ls hP hS hl) (fun h => kf h H locs ls hP hS hl)
theorem zr_if_ge (C : zCX p R s m args meth c g n1 n2 cc nL own F Lc) {x : Int32} {off : Int} (tgt : Nat) (hdg : decode cc pc = .ok (.ifCond .ge off, 3)) (ht : (pc : Int) + off = (tgt : Int)) (kt : 0 ≤ x → zGG p l e R s m args below meth c Q g n1 n2 nL tgt lv st σ) (kf : ¬ 0 ≤ x → zGG p l e R s m args below meth c Q g n1 n2 nL (pc + 3) lv st σ) : zGG p l e R s m args below meth c Q g n1 n2 nL pc lv (.int x :: st) σ :=
  fun H locs ls hP hS hl => lv_if_ge C.1 C.2.1 hdg ht (fun h => kt h H locs ls hP hS hl) (fun h => kf h H locs ls hP hS hl)
theorem zr_icmp_gt (C : zCX p R s m args meth c g n1 n2 cc nL own F Lc) {x y : Int32} {off : Int} (tgt : Nat) (hdg : decode cc pc = .ok (.if_icmp .gt off, 3)) (ht : (pc : Int) + off = (tgt : Int)) (kt : y < x → zGG p l e R s m args below meth c Q g n1 n2 nL tgt lv st σ) (kf : ¬ y < x → zGG p l e R s m args below meth c Q g n1 n2 nL (pc + 3) lv st σ) : zGG p l e R s m args below meth c Q g n1 n2 nL pc lv (.int y :: .int x :: st) σ :=
  fun H locs ls hP hS hl => lv_icmp_gt C.1 C.2.1 hdg ht (fun h => kt h H locs ls hP hS hl) (fun h => kf h H locs ls hP hS hl)
theorem zr_if_gt (C : zCX p R s m args meth c g n1 n2 cc nL own F Lc) {x : Int32} {off : Int} (tgt : Nat) (hdg : decode cc pc = .ok (.ifCond .gt off, 3)) (ht : (pc : Int) + off = (tgt : Int)) (kt : 0 < x → zGG p l e R s m args below meth c Q g n1 n2 nL tgt lv st σ) (kf : ¬ 0 < x → zGG p l e R s m args below meth c Q g n1 n2 nL (pc + 3) lv st σ) : zGG p l e R s m args below meth c Q g n1 n2 nL pc lv (.int x :: st) σ :=
  fun H locs ls hP hS hl => lv_if_gt C.1 C.2.1 hdg ht (fun h => kt h H locs ls hP hS hl) (fun h => kf h H locs ls hP hS hl)
theorem zr_icmp_le (C : zCX p R s m args meth c g n1 n2 cc nL own F Lc) {x y : Int32} {off : Int} (tgt : Nat) (hdg : decode cc pc = .ok (.if_icmp .le off, 3)) (ht : (pc : Int) + off = (tgt : Int)) (kt : x ≤ y → zGG p l e R s m args below meth c Q g n1 n2 nL tgt lv st σ) (kf : ¬ x ≤ y → zGG p l e R s m args below meth c Q g n1 n2 nL (pc + 3) lv st σ) : zGG p l e R s m args below meth c Q g n1 n2 nL pc lv (.int y :: .int x :: st) σ :=
  fun H locs ls hP hS hl => lv_icmp_le C.1 C.2.1 hdg ht (fun h => kt h H locs ls hP hS hl) (fun h => kf h H locs ls hP hS hl)
theorem zr_if_le (C : zCX p R s m args meth c g n1 n2 cc nL own F Lc) {x : Int32} {off : Int} (tgt : Nat) (hdg : decode cc pc = .ok (.ifCond .le off, 3)) (ht : (pc : Int) + off = (tgt : Int)) (kt : x ≤ 0 → zGG p l e R s m args below meth c Q g n1 n2 nL tgt lv st σ) (kf : ¬ x ≤ 0 → zGG p l e R s m args below meth c Q g n1 n2 nL (pc + 3) lv st σ) : zGG p l e R s m args below meth c Q g n1 n2 nL pc lv (.int x :: st) σ :=
  fun H locs ls hP hS hl => lv_if_le C.1 C.2.1 hdg ht (fun h => kt h H locs ls hP hS hl) (fun h => kf h H locs ls hP hS hl)
end ZR
end
section
/-! rows of the heap, calls, ends -/
section ZH
variable {p : Program} {l : Launch} {e : Env} {R : Room} {s : State} {m : MethodId} {args : Array Value} {below : List Frame} {meth : Method} {c : Code} {Q : State → Prop} {g : zG} {n1 n2 nL F Lc : Nat} {cc : ByteArray} {own : String} {pc : Nat} {lv : List (Nat × Value)} {st : List Value} {σ : zST}
/-- what a getfield or putfield needs: the link's word, the field's place -/
def zFW (own : String) (index ci k : Nat) (C : String) (T : u_T) (N : Nat) : Prop := vwCl[ci]? = some (C, T, N) ∧ k < N ∧ (∀ w ∈ u_ws C T N, w ∈ zGW) ∧ Cond.fieldLink own index (T k).1 (T k).2.1 (T k).2.2.1 ∈ zGW
theorem zr_geti (C : zCX p R s m args meth c g n1 n2 cc nL own F Lc) {index ci k : Nat} {C0 : String} {T : u_T} {N a : Nat} {ts : List Nat} (fw : zFW own index ci k C0 T N) (hsh : zT[a]? = some (3, ci, ts)) (hk : ts[k]? = some 0) (hdg : decode cc pc = .ok (.getfield index, 3))
    (kk : zGG p l e R s m args below meth c Q g n1 n2 nL (pc + 3) lv (.int (σ.1 a k) :: st) σ) : zGG p l e R s m args below meth c Q g n1 n2 nL pc lv (.ref (g.2.1 a) :: st) σ := by
  intro H locs ls hP hS hl
  have h1 := zFld_int (ρ := g.2.1) (r := σ.1 a) ts 0 k hk
  rw [Nat.zero_add] at h1
  exact va_get (D := g.1) C.1 C.2.1 C.2.2.2.2.1 fw.2.2.1 C.2.2.2.1 C.2.2.2.2.2.1.1 hP a (zW_at hsh) fw.1 k fw.2.1 (C.2.2.2.2.1 _ fw.2.2.2) (fun _ h => h) h1 hdg (kk H locs ls hP hS hl)
theorem zr_getr (C : zCX p R s m args meth c g n1 n2 cc nL own F Lc) {index ci k : Nat} {C0 : String} {T : u_T} {N a u : Nat} {ts : List Nat} (fw : zFW own index ci k C0 T N) (hsh : zT[a]? = some (3, ci, ts)) (hk : ts[k]? = some (u + 1)) (hdg : decode cc pc = .ok (.getfield index, 3))
    (kk : zGG p l e R s m args below meth c Q g n1 n2 nL (pc + 3) lv (.ref (g.2.1 u) :: st) σ) : zGG p l e R s m args below meth c Q g n1 n2 nL pc lv (.ref (g.2.1 a) :: st) σ := by
  intro H locs ls hP hS hl
  have h1 := zFld_ref (ρ := g.2.1) (r := σ.1 a) ts 0 k hk
  exact va_get (D := g.1) C.1 C.2.1 C.2.2.2.2.1 fw.2.2.1 C.2.2.2.1 C.2.2.2.2.2.1.1 hP a (zW_at hsh) fw.1 k fw.2.1 (C.2.2.2.2.1 _ fw.2.2.2) (fun _ h => h) h1 hdg (kk H locs ls hP hS hl)
/-- what a putfield needs besides -/
def zPW (k : Nat) (T : u_T) (N : Nat) (ty0 : Nat → FieldType) (ty : FieldType) : Prop := (∀ k, k < N → parseFieldDescriptor (T k).2.2.1 = some (ty0 k)) ∧ (∀ a, a < N → ∀ b, b < N → a ≠ b → (T a).2.1 ≠ (T b).2.1) ∧ (T k).2.2.2 = false ∧ parseFieldDescriptor (T k).2.2.1 = some ty
theorem zr_puti (C : zCX p R s m args meth c g n1 n2 cc nL own F Lc) {index ci k : Nat} {C0 : String} {T : u_T} {N a : Nat} {ts : List Nat} {ty0 : Nat → FieldType} {ty : FieldType} (fw : zFW own index ci k C0 T N) (pw : zPW k T N ty0 ty) (hsh : zT[a]? = some (3, ci, ts)) (hk : ts[k]? = some 0) {v : Int32} (hn : narrow ty (.int v) = .int v) (hfit : fits ty (.int v) = true) (hdg : decode cc pc = .ok (.putfield index, 3))
    (kk : zGG p l e R s m args below meth c Q g n1 n2 nL (pc + 3) lv st (wI σ a k v)) : zGG p l e R s m args below meth c Q g n1 n2 nL pc lv (.int v :: .ref (g.2.1 a) :: st) σ := by
  intro H locs ls hP hS hl
  refine va_put (D := g.1) C.1 C.2.1 C.2.2.2.2.1 fw.2.2.1 ty0 pw.1 pw.2.1 C.2.2.2.1 C.2.2.2.2.2.1.1 hP (zW_D C.2.2.2.2.2.1.2.2) hS a (zW_at hsh) fw.1 k fw.2.1 (C.2.2.2.2.1 _ fw.2.2.2) (fun _ h => h) pw.2.2.1 pw.2.2.2 hn hfit (by rw [zFld_len]; exact (List.getElem?_eq_some_iff.mp hk).1) hdg (fun H1 locs1 hP1 hD1 hS1 => ?_)
  refine kk H1 locs1 ls ?_ hS1 hl
  have he := zFld_set (ρ := g.2.1) (r := σ.1 a) (v := v) ts 0 k hk
  rw [Nat.zero_add] at he
  rw [← zW_set (σ := σ) (σ' := wI σ a k v) (e := .inr (ci, (zFld g.2.1 (σ.1 a) 0 ts).set k (.int v))) hsh (by rw [wI_row]; show Sum.inr (ci, zFld _ _ _ _) = _; rw [he]) (fun j hj => wI_ne hj) (fun j hj => rfl)]
  exact hP1
theorem zr_iald (C : zCX p R s m args meth c g n1 n2 cc nL own F Lc) {a n : Nat} {ts : List Nat} (hsh : zT[a]? = some (0, n, ts)) {i : Int32} (hin : vp_in i n) (hdg : decode cc pc = .ok (.iaload, 1))
    (kk : zGG p l e R s m args below meth c Q g n1 n2 nL (pc + 1) lv (.int (σ.1 a i.toNatClampNeg) :: st) σ) : zGG p l e R s m args below meth c Q g n1 n2 nL pc lv (.int i :: .ref (g.2.1 a) :: st) σ :=
  fun H locs ls hP hS hl => va_iald (D := g.1) C.1 C.2.1 C.2.2.2.2.2.1.1 hP a 0 (zW_at hsh) rfl hin hdg (kk H locs ls hP hS hl)
theorem zr_zald (C : zCX p R s m args meth c g n1 n2 cc nL own F Lc) {a n : Nat} {ts : List Nat} (hsh : zT[a]? = some (2, n, ts)) {i : Int32} (hin : vp_in i n) (hdg : decode cc pc = .ok (.baload, 1))
    (kk : zGG p l e R s m args below meth c Q g n1 n2 nL (pc + 1) lv (.int (σ.1 a i.toNatClampNeg) :: st) σ) : zGG p l e R s m args below meth c Q g n1 n2 nL pc lv (.int i :: .ref (g.2.1 a) :: st) σ :=
  fun H locs ls hP hS hl => va_zald (D := g.1) C.1 C.2.1 C.2.2.2.2.2.1.1 hP a 2 (zW_at hsh) rfl hin hdg (kk H locs ls hP hS hl)
theorem zr_lald (C : zCX p R s m args meth c g n1 n2 cc nL own F Lc) {a n : Nat} {ts : List Nat} (hsh : zT[a]? = some (1, n, ts)) {i : Int32} (hin : vp_in i n) (hdg : decode cc pc = .ok (.laload, 1))
    (kk : zGG p l e R s m args below meth c Q g n1 n2 nL (pc + 1) lv (.long (σ.2 a i.toNatClampNeg) :: st) σ) : zGG p l e R s m args below meth c Q g n1 n2 nL pc lv (.int i :: .ref (g.2.1 a) :: st) σ :=
  fun H locs ls hP hS hl => va_lald (D := g.1) C.1 C.2.1 C.2.2.2.2.2.1.1 hP a 1 (zW_at hsh) rfl hin hdg (kk H locs ls hP hS hl)
theorem zr_alen (C : zCX p R s m args meth c g n1 n2 cc nL own F Lc) {a n : Nat} {ts : List Nat} (hsh : zT[a]? = some (0, n, ts)) (hdg : decode cc pc = .ok (.arraylength, 1))
    (kk : zGG p l e R s m args below meth c Q g n1 n2 nL (pc + 1) lv (.int (Int32.ofNat n) :: st) σ) : zGG p l e R s m args below meth c Q g n1 n2 nL pc lv (.ref (g.2.1 a) :: st) σ :=
  fun H locs ls hP hS hl => va_alen (D := g.1) C.1 C.2.1 C.2.2.2.2.2.1.1 hP a 0 (zW_at hsh) (ty := .int) rfl rfl hdg (kk H locs ls hP hS hl)
theorem zr_iast (C : zCX p R s m args meth c g n1 n2 cc nL own F Lc) {a n : Nat} {ts : List Nat} (hsh : zT[a]? = some (0, n, ts)) {i v : Int32} (hin : vp_in i n) (hdg : decode cc pc = .ok (.iastore, 1))
    (kk : zGG p l e R s m args below meth c Q g n1 n2 nL (pc + 1) lv st (wI σ a i.toNatClampNeg v)) : zGG p l e R s m args below meth c Q g n1 n2 nL pc lv (.int v :: .int i :: .ref (g.2.1 a) :: st) σ := by
  intro H locs ls hP hS hl
  refine va_iast (D := g.1) C.1 C.2.1 C.2.2.2.2.2.1.1 hP (zW_D C.2.2.2.2.2.1.2.2) hS a 0 (zW_at hsh) rfl hin hdg (fun H1 locs1 hP1 hD1 hS1 => kk H1 locs1 ls ?_ hS1 hl)
  rw [← zW_set (σ := σ) (σ' := wI σ a i.toNatClampNeg v) (e := .inl (g.2.2.1, n, .inl (upd (σ.1 a) i.toNatClampNeg v))) hsh (by rw [wI_row]; rfl) (fun j hj => wI_ne hj) (fun j hj => rfl)]
  exact hP1
theorem zr_zast (C : zCX p R s m args meth c g n1 n2 cc nL own F Lc) {a n : Nat} {ts : List Nat} (hsh : zT[a]? = some (2, n, ts)) {i v : Int32} (hin : vp_in i n) (hv : vp_nar .boolean v = v) (hdg : decode cc pc = .ok (.bastore, 1))
    (kk : zGG p l e R s m args below meth c Q g n1 n2 nL (pc + 1) lv st (wI σ a i.toNatClampNeg v)) : zGG p l e R s m args below meth c Q g n1 n2 nL pc lv (.int v :: .int i :: .ref (g.2.1 a) :: st) σ := by
  intro H locs ls hP hS hl
  refine va_zast (D := g.1) C.1 C.2.1 C.2.2.2.2.2.1.1 hP (zW_D C.2.2.2.2.2.1.2.2) hS a 2 (zW_at hsh) rfl hin hdg (fun H1 locs1 hP1 hD1 hS1 => kk H1 locs1 ls ?_ hS1 hl)
  rw [hv] at hP1
  rw [← zW_set (σ := σ) (σ' := wI σ a i.toNatClampNeg v) (e := .inl (g.2.2.2.2, n, .inl (upd (σ.1 a) i.toNatClampNeg v))) hsh (by rw [wI_row]; rfl) (fun j hj => wI_ne hj) (fun j hj => rfl)]
  exact hP1
theorem zr_last (C : zCX p R s m args meth c g n1 n2 cc nL own F Lc) {a n : Nat} {ts : List Nat} (hsh : zT[a]? = some (1, n, ts)) {i : Int32} {v : Int64} (hin : vp_in i n) (hdg : decode cc pc = .ok (.lastore, 1))
    (kk : zGG p l e R s m args below meth c Q g n1 n2 nL (pc + 1) lv st (wL σ a i.toNatClampNeg v)) : zGG p l e R s m args below meth c Q g n1 n2 nL pc lv (.long v :: .int i :: .ref (g.2.1 a) :: st) σ := by
  intro H locs ls hP hS hl
  refine va_last (D := g.1) C.1 C.2.1 C.2.2.2.2.2.1.1 hP (zW_D C.2.2.2.2.2.1.2.2) hS a 1 (zW_at hsh) rfl hin hdg (fun H1 locs1 hP1 hD1 hS1 => kk H1 locs1 ls ?_ hS1 hl)
  rw [← zW_set (σ := σ) (σ' := wL σ a i.toNatClampNeg v) (e := .inl (g.2.2.2.1, n, .inr (.inl (vp_updL (σ.2 a) i.toNatClampNeg v)))) hsh (by rw [wL_row]; rfl) (fun j hj => rfl) (fun j hj => wL_ne hj)]
  exact hP1
/-- System.arraycopy over ints, longs -/
def zAW (own : String) (index : Nat) : Prop := Cond.methodLink own index arraycopyName ∈ zGW ∧ Cond.native arraycopyName ∈ zGW ∧ Cond.static arraycopyName ∈ zGW ∧ Cond.initialized "java/lang/System" ∈ zGW
def zCp (n0 n1 : Nat) (sp dp n : Int32) : Prop := ¬ sp < 0 ∧ ¬ dp < 0 ∧ ¬ n < 0 ∧ sp.toNatClampNeg + n.toNatClampNeg ≤ n0 ∧ dp.toNatClampNeg + n.toNatClampNeg ≤ n1
theorem zr_copyi (C : zCX p R s m args meth c g n1 n2 cc nL own F Lc) {index : Nat} (aw : zAW own index) {a b na nb : Nat} {ta tb : List Nat} (ha : zT[a]? = some (0, na, ta)) (hb : zT[b]? = some (0, nb, tb)) {sp dp n : Int32} (hc : zCp na nb sp dp n) (hF : 1 ≤ F) (hL : (st.map fun v => v.category).sum + (nativeFrameWords "java/lang/System" "arraycopy" 5 + 11) ≤ Lc) (hdg : decode cc pc = .ok (.invokestatic index, 3))
    (kk : zGG p l e R s m args below meth c Q g n1 n2 nL (pc + 3) lv st (wRI σ b (va_cpy (σ.1 a) (σ.1 b) sp.toNatClampNeg dp.toNatClampNeg n.toNatClampNeg))) : zGG p l e R s m args below meth c Q g n1 n2 nL pc lv (.int n :: .int dp :: .ref (g.2.1 b) :: .int sp :: .ref (g.2.1 a) :: st) σ := by
  intro H locs ls hP hS hl
  obtain ⟨h1, h2, h3, h4, h5⟩ := hc
  refine va_copyi (D := g.1) C.1 C.2.1 (C.2.2.1.trans hl.1.symm) C.2.2.2.1 (C.2.2.2.2.1 _ aw.1) (C.2.2.2.2.1 _ aw.2.1) (C.2.2.2.2.1 _ aw.2.2.1) (C.2.2.2.2.1 _ aw.2.2.2) C.2.2.2.2.2.1.1 hP (zW_D C.2.2.2.2.2.1.2.2) hS a b 0 0 (ty := .int) (zW_at ha) (zW_at hb) rfl rfl rfl h1 h2 h3 h4 h5 (fun i hi => rfl) (Nat.le_trans hF C.2.2.2.2.2.2.2.1) (Nat.le_trans hL C.2.2.2.2.2.2.2.2.1) hdg (fun H1 locs1 hP1 hD1 hS1 => kk H1 locs1 ls ?_ hS1 hl)
  rw [← zW_set (σ := σ) (σ' := wRI σ b (va_cpy (σ.1 a) (σ.1 b) sp.toNatClampNeg dp.toNatClampNeg n.toNatClampNeg)) (e := .inl (g.2.2.1, nb, .inl (va_cpy (σ.1 a) (σ.1 b) sp.toNatClampNeg dp.toNatClampNeg n.toNatClampNeg))) hb (by rw [wRI_row]; rfl) (fun j hj => wRI_ne hj) (fun j hj => rfl)]
  exact hP1
theorem zr_copyl (C : zCX p R s m args meth c g n1 n2 cc nL own F Lc) {index : Nat} (aw : zAW own index) {a b na nb : Nat} {ta tb : List Nat} (ha : zT[a]? = some (1, na, ta)) (hb : zT[b]? = some (1, nb, tb)) {sp dp n : Int32} (hc : zCp na nb sp dp n) (hF : 1 ≤ F) (hL : (st.map fun v => v.category).sum + (nativeFrameWords "java/lang/System" "arraycopy" 5 + 11) ≤ Lc) (hdg : decode cc pc = .ok (.invokestatic index, 3))
    (kk : zGG p l e R s m args below meth c Q g n1 n2 nL (pc + 3) lv st (wRL σ b (va_cpy (σ.2 a) (σ.2 b) sp.toNatClampNeg dp.toNatClampNeg n.toNatClampNeg))) : zGG p l e R s m args below meth c Q g n1 n2 nL pc lv (.int n :: .int dp :: .ref (g.2.1 b) :: .int sp :: .ref (g.2.1 a) :: st) σ := by
  intro H locs ls hP hS hl
  obtain ⟨h1, h2, h3, h4, h5⟩ := hc
  refine va_copyl (D := g.1) C.1 C.2.1 (C.2.2.1.trans hl.1.symm) C.2.2.2.1 (C.2.2.2.2.1 _ aw.1) (C.2.2.2.2.1 _ aw.2.1) (C.2.2.2.2.1 _ aw.2.2.1) (C.2.2.2.2.1 _ aw.2.2.2) C.2.2.2.2.2.1.1 hP (zW_D C.2.2.2.2.2.1.2.2) hS a b 1 1 (ty := .long) (zW_at ha) (zW_at hb) rfl rfl rfl h1 h2 h3 h4 h5 (fun i hi => rfl) (Nat.le_trans hF C.2.2.2.2.2.2.2.1) (Nat.le_trans hL C.2.2.2.2.2.2.2.2.1) hdg (fun H1 locs1 hP1 hD1 hS1 => kk H1 locs1 ls ?_ hS1 hl)
  rw [← zW_set (σ := σ) (σ' := wRL σ b (va_cpy (σ.2 a) (σ.2 b) sp.toNatClampNeg dp.toNatClampNeg n.toNatClampNeg)) (e := .inl (g.2.2.2.1, nb, .inr (.inl (va_cpy (σ.2 a) (σ.2 b) sp.toNatClampNeg dp.toNatClampNeg n.toNatClampNeg)))) hb (by rw [wRL_row]; rfl) (fun j hj => rfl) (fun j hj => wRL_ne hj)]
  exact hP1
/-! calls -/
def zRun (p : Program) (l : Launch) (e : Env) (R : Room) (s : State) (m : MethodId) (args : Array Value) (below : List Frame) (meth : Method) (c : Code) (g : zG) (n1 n2 nL : Nat) (pc : Nat) (lv : List (Nat × Value)) (st rest : List Value) (σ : zST) (Qa : State → Outcome → State → Prop) : Prop :=
  ∀ (H : Heap) (locs : List Loc) (ls : Array Slot), va_P g.1 vwCl (zW g σ) H → va_S (zA g) s.heap H locs → lv_has ls nL lv → va_Run p l e R s m args below meth c H locs n1 n2 0 0 (F0 m pc ls st) rest Qa (zA g)
/-- the words of a call: virtual, static, of a nest mate's static -/
def zVW (own : String) (index : Nat) (y : MethodName) (bytes : ByteArray) (maxL : Nat) (ret : Option FieldType) (n : Nat) : Prop := Cond.code y bytes maxL ret ∈ zGW ∧ Cond.methodLink own index y ∈ zGW ∧ Cond.instanceMethod y ∈ zGW ∧ Cond.selects y.cls y y ∈ zGW ∧ Cond.initialized y.cls ∈ zGW ∧ (y.cls ≠ "java/lang/invoke/MethodHandle" ∧ y.cls ≠ "java/lang/invoke/VarHandle" ∧ (parseMethodDescriptor y.desc).map (fun d => d.parameters.length) = some n)
def zSW (own : String) (index : Nat) (y : MethodName) (bytes : ByteArray) (maxL : Nat) (ret : Option FieldType) (n : Nat) : Prop := Cond.code y bytes maxL ret ∈ zGW ∧ Cond.methodLink own index y ∈ zGW ∧ Cond.static y ∈ zGW ∧ Cond.initialized y.cls ∈ zGW ∧ (y.cls ≠ "java/lang/invoke/MethodHandle" ∧ y.cls ≠ "java/lang/invoke/VarHandle" ∧ (parseMethodDescriptor y.desc).map (fun d => d.parameters.length) = some n)
def zNWd (own : String) (index : Nat) (y : MethodName) (host : String) (bytes : ByteArray) (maxL : Nat) (ret : Option FieldType) (n : Nat) : Prop := Cond.code y bytes maxL ret ∈ zGW ∧ Cond.methodLinkNest own index y host ∈ zNW ∧ Cond.static y ∈ zGW ∧ Cond.initialized y.cls ∈ zGW ∧ (y.cls ≠ "java/lang/invoke/MethodHandle" ∧ y.cls ≠ "java/lang/invoke/VarHandle" ∧ (parseMethodDescriptor y.desc).map (fun d => d.parameters.length) = some n)
abbrev zRm (f lo : Nat) : Room := { frames := f, cells := 0, slots := 0, locals := lo }
theorem zr_runV (C : zCX p R s m args meth c g n1 n2 cc nL own F Lc) {index maxL n f lo a ci : Nat} {y : MethodName} {bytes : ByteArray} {ret : Option FieldType} {As rest : List Value} {ts : List Nat} {T : u_T} {N : Nat} {Qc : Array Value → State → Outcome → State → Prop}
    (vw : zVW own index y bytes maxL ret n) (hM : Met l y (Cond.code y bytes maxL ret :: zGW) (zRm f lo) (va_Pc (.ref (g.2.1 a) :: As) (zPP g σ)) Qc 0 0 (zA g)) (hsh : zT[a]? = some (3, ci, ts)) (hcl : vwCl[ci]? = some (y.cls, T, N)) (hF : f + 1 ≤ F) (hL : 8 + (maxL + 11) + lo ≤ Lc) (hn : As.length = n) (hst : st = As.reverse ++ .ref (g.2.1 a) :: rest) (hrm : (rest.map fun v => v.category).sum ≤ 8) (hdg : decode cc pc = .ok (.invokevirtual index, 3)) :
    zRun p l e R s m args below meth c g n1 n2 nL pc lv st rest σ (Qc (Value.ref (g.2.1 a) :: As).toArray) := by
  intro H locs ls hP hS hl
  subst hst
  obtain ⟨hx, hb, hml, hown, hts, hK, hlo, hF1, hL1, hc1, hc2⟩ := C
  have cw : CallW R s args own y.cls index y bytes maxL ret (Cond.code y bytes maxL ret :: zGW) (zRm f lo) 0 0 n :=
    ⟨callB_of n hts (zGW_good vw.1) rfl rfl rfl (hts _ vw.2.2.2.2.1) (hts _ vw.2.1) vw.2.2.2.2.2 ⟨Nat.le_trans hF hF1, Nat.le_trans hL hL1⟩, hts _ vw.2.2.1, hts _ vw.2.2.2.1⟩
  exact va_runV ⟨hx, hb, hml, hown, hts⟩ hM cw ⟨zPP.blind, va_recv hK.1 hP hcl (zW_at hsh), fun U hU hW => ⟨rfl, by rw [hU]; exact hP, hK.moved hW⟩⟩ rfl hn hl.1 rfl (lv_room hrm) hdg ⟨hc1, hc2⟩
theorem zr_runS (C : zCX p R s m args meth c g n1 n2 cc nL own F Lc) {index maxL n f lo : Nat} {y : MethodName} {bytes : ByteArray} {ret : Option FieldType} {As rest : List Value} {Qc : Array Value → State → Outcome → State → Prop}
    (vw : zSW own index y bytes maxL ret n) (hM : Met l y (Cond.code y bytes maxL ret :: zGW) (zRm f lo) (va_Pc As (zPP g σ)) Qc 0 0 (zA g)) (hF : f + 1 ≤ F) (hL : 8 + (maxL + 11) + lo ≤ Lc) (hn : As.length = n) (hst : st = As.reverse ++ rest) (hrm : (rest.map fun v => v.category).sum ≤ 8) (hdg : decode cc pc = .ok (.invokestatic index, 3)) :
    zRun p l e R s m args below meth c g n1 n2 nL pc lv st rest σ (Qc As.toArray) := by
  intro H locs ls hP hS hl
  subst hst
  obtain ⟨hx, hb, hml, hown, hts, hK, hlo, hF1, hL1, hc1, hc2⟩ := C
  have cw : CallB R s args own index y bytes maxL ret (Cond.code y bytes maxL ret :: zGW) (zRm f lo) 0 0 n ∧ (Cond.static y).before args s = true :=
    ⟨callB_of n hts (zGW_good vw.1) rfl rfl rfl (hts _ vw.2.2.2.1) (hts _ vw.2.1) vw.2.2.2.2 ⟨Nat.le_trans hF hF1, Nat.le_trans hL hL1⟩, hts _ vw.2.2.1⟩
  exact va_runS ⟨hx, hb, hml, hown, hts⟩ hM cw ⟨zPP.blind, fun U hU hW => ⟨rfl, by rw [hU]; exact hP, hK.moved hW⟩⟩ rfl hn hl.1 rfl (lv_room hrm) hdg ⟨hc1, hc2⟩
theorem zr_runN (C : zCX p R s m args meth c g n1 n2 cc nL own F Lc) {index maxL n f lo : Nat} {host : String} {y : MethodName} {bytes : ByteArray} {ret : Option FieldType} {As rest : List Value} {Qc : Array Value → State → Outcome → State → Prop}
    (vw : zNWd own index y host bytes maxL ret n) (hM : Met l y (Cond.code y bytes maxL ret :: zGW) (zRm f lo) (va_Pc As (zPP g σ)) Qc 0 0 (zA g)) (hF : f + 1 ≤ F) (hL : 8 + (maxL + 11) + lo ≤ Lc) (hn : As.length = n) (hst : st = As.reverse ++ rest) (hrm : (rest.map fun v => v.category).sum ≤ 8) (hdg : decode cc pc = .ok (.invokestatic index, 3)) :
    zRun p l e R s m args below meth c g n1 n2 nL pc lv st rest σ (Qc As.toArray) := by
  intro H locs ls hP hS hl
  subst hst
  obtain ⟨hx, hb, hml, hown, hts, hK, hlo, hF1, hL1, hc1, hc2⟩ := C
  exact va_runSN ⟨hx, hb, hml, hown, hts⟩ hM ⟨va_cnB n hts (zGW_good vw.1) rfl rfl rfl (hK.2.1 _ vw.2.1) (hts _ vw.2.2.2.1) vw.2.2.2.2 ⟨Nat.le_trans hF hF1, Nat.le_trans hL hL1⟩, hts _ vw.2.2.1, trivial⟩ ⟨zPP.blind, fun U hU hW => ⟨rfl, by rw [hU]; exact hP, hK.moved hW⟩⟩ rfl hn hl.1 rfl (lv_room hrm) hdg ⟨hc1, hc2⟩
theorem zr_ci {rest : List Value} {Post : Int32 → zST → Prop} {a : Array Value} (hr : zRun p l e R s m args below meth c g n1 n2 nL pc lv st rest σ (va_Qi Post (zBB g) (zA g) a)) (kk : ∀ (r : Int32) (σ' : zST), Post r σ' → zGG p l e R s m args below meth c Q g n1 n2 nL (pc + 3) lv (.int r :: rest) σ') : zGG p l e R s m args below meth c Q g n1 n2 nL pc lv st σ := by
  intro H locs ls hP hS hl
  refine va_calli (hr H locs ls hP hS hl) hS (fun q _ h => h) (fun q h => h) (fun r u t H1 locs1 ht hvm hw hB hz1 hk1 hS1 => ?_)
  refine kk r u hw H1 locs1 ls ?_ hS1 hl
  rw [← ht]
  exact hB
theorem zr_cl {rest : List Value} {Post : Int64 → zST → Prop} {a : Array Value} (hr : zRun p l e R s m args below meth c g n1 n2 nL pc lv st rest σ (va_Ql Post (zBB g) (zA g) a)) (kk : ∀ (r : Int64) (σ' : zST), Post r σ' → zGG p l e R s m args below meth c Q g n1 n2 nL (pc + 3) lv (.long r :: rest) σ') : zGG p l e R s m args below meth c Q g n1 n2 nL pc lv st σ := by
  intro H locs ls hP hS hl
  refine va_calll (hr H locs ls hP hS hl) hS (fun q _ h => h) (fun q h => h) (fun r u t H1 locs1 ht hvm hw hB hz1 hk1 hS1 => ?_)
  refine kk r u hw H1 locs1 ls ?_ hS1 hl
  rw [← ht]
  exact hB
theorem zr_cv {rest : List Value} {Post : zST → Prop} {a : Array Value} (hr : zRun p l e R s m args below meth c g n1 n2 nL pc lv st rest σ (va_Qv Post (zBB g) (zA g) a)) (kk : ∀ (σ' : zST), Post σ' → zGG p l e R s m args below meth c Q g n1 n2 nL (pc + 3) lv rest σ') : zGG p l e R s m args below meth c Q g n1 n2 nL pc lv st σ := by
  intro H locs ls hP hS hl
  refine va_callv (hr H locs ls hP hS hl) hS (fun q _ h => h) (fun q h => h) (fun u t H1 locs1 ht hvm hw hB hz1 hk1 hS1 => ?_)
  refine kk u hw H1 locs1 ls ?_ hS1 hl
  rw [← ht]
  exact hB
def zPr (g : zG) (Post : Nat → zST → Prop) (u : Nat × zST) : Prop := Post u.1 u.2
def zBr (g : zG) (u : Nat × zST) (ra : Nat) (t : State) : Prop := ra = g.2.1 u.1 ∧ zBB g u.2 t
theorem zr_cr {rest : List Value} {Post : Nat → zST → Prop} {a : Array Value} (hr : zRun p l e R s m args below meth c g n1 n2 nL pc lv st rest σ (va_Qr (zPr g Post) (zBr g) (zA g) a)) (kk : ∀ (r : Nat) (σ' : zST), Post r σ' → zGG p l e R s m args below meth c Q g n1 n2 nL (pc + 3) lv (.ref (g.2.1 r) :: rest) σ') : zGG p l e R s m args below meth c Q g n1 n2 nL pc lv st σ := by
  intro H locs ls hP hS hl
  refine va_callr (hr H locs ls hP hS hl) hS (fun q _ h => h) (fun q h => h) (fun u ra t H1 locs1 ht hvm hw hB hz1 hk1 hS1 => ?_)
  obtain ⟨h1, h2⟩ := hB
  subst h1
  refine kk u.1 u.2 hw H1 locs1 ls ?_ hS1 hl
  rw [← ht]
  exact h2
end ZH
/-! ends: what a method owes, from a walk of its body -/
section ZE
variable {l : Launch} {g : zG} {y : MethodName} {cc : ByteArray} {maxL f lo : Nat} {As : List Value} {σ : zST}
def zBody (l : Launch) (g : zG) (cc : ByteArray) (maxL f lo : Nat) (own : String) (As : List Value) (σ : zST) (P : (p : Program) → (e : Env) → (R : Room) → (s : State) → (m : MethodId) → (args : Array Value) → (below : List Frame) → (meth : Method) → (c : Code) → (Q : State → Prop) → Prop) : Prop :=
  ∀ p e R s m args below meth c Q, zCX p R s m args meth c g 0 0 cc maxL own f lo → P p e R s m args below meth c Q → zGG p l e R s m args below meth c Q g 0 0 maxL 0 (lv_args 0 As) [] σ
theorem zMet {ret : Option FieldType} {Qc : Array Value → State → Outcome → State → Prop} (hy : plainName y.cls = true) (hls : (lg_sl As).length ≤ maxL)
    (body : ∀ p e s m below meth c, meth.sig.returnType = ret → zCX p (zRm f lo) s m As.toArray meth c g 0 0 cc maxL y.cls f lo → zGG p l e (zRm f lo) s m As.toArray below meth c (MQ below Qc As.toArray s 0 0 (zA g)) g 0 0 maxL 0 (lv_args 0 As) [] σ) :
    Met l y (Cond.code y cc maxL ret :: zGW) (zRm f lo) (va_Pc As (zPP g σ)) Qc 0 0 (zA g) := by
  refine Met.ofW (cc := cc) (maxL := maxL) (ret := ret) hy rfl ?_
  intro p e s m args below meth c s₁ B hml hv
  obtain ⟨rfl, hP, hK⟩ := hv
  have hts := atoms_spec (ws := Cond.code y cc maxL ret :: zGW) B.pre
  have hown : s.vm.findClass y.cls = some m.cls := findClass_of_methodNamed B.named
  rw [lg_entry_eq]
  exact body p e s m below meth c B.returns ⟨B.exec, B.bytes, hml, hown, fun w hw => hts w (List.mem_cons_of_mem _ hw), hK, B.notSynchronized, Nat.le_refl _, Nat.le_refl _, Nat.le_refl _, Nat.le_refl _⟩ s.heap [] _ hP va_S.rf (lv_entry As hls)
end ZE
section ZQ
variable {p : Program} {l : Launch} {e : Env} {R : Room} {s : State} {m : MethodId} {args : Array Value} {below : List Frame} {meth : Method} {c : Code} {g : zG} {nL F Lc : Nat} {cc : ByteArray} {own : String} {pc : Nat} {lv : List (Nat × Value)} {σ : zST}
theorem zr_iret (C : zCX p R s m args meth c g 0 0 cc nL own F Lc) {Post : Int32 → zST → Prop} (hr : meth.sig.returnType = some .int) {v : Int32} (hp : Post v σ) (hdg : decode cc pc = .ok (.ireturn, 1)) : zGG p l e R s m args below meth c (MQ below (va_Qi Post (zBB g) (zA g)) args s 0 0 (zA g)) g 0 0 nL pc lv [.int v] σ := by
  intro H locs ls hP hS hl
  have hlocks : meth.locks = false := C.2.2.2.2.2.2.1
  exact W.iret (v := v) C.1 C.2.1 hr (fun t ht hW => ⟨⟨v, σ, rfl, hp, by show va_P _ _ _ t.heap; rw [ht]; exact hP⟩, hS.F ht⟩) hS.2.2 hdg
theorem zr_zret (C : zCX p R s m args meth c g 0 0 cc nL own F Lc) {Post : Int32 → zST → Prop} (hr : meth.sig.returnType = some .boolean) {v : Int32} (hn : narrow .boolean (.int v) = .int v) (hp : Post v σ) (hdg : decode cc pc = .ok (.ireturn, 1)) : zGG p l e R s m args below meth c (MQ below (va_Qi Post (zBB g) (zA g)) args s 0 0 (zA g)) g 0 0 nL pc lv [.int v] σ := by
  intro H locs ls hP hS hl
  have hlocks : meth.locks = false := C.2.2.2.2.2.2.1
  exact W.zret (v := v) C.1 C.2.1 hr hn (fun t ht hW => ⟨⟨v, σ, rfl, hp, by show va_P _ _ _ t.heap; rw [ht]; exact hP⟩, hS.F ht⟩) hS.2.2 hdg
theorem zr_lret (C : zCX p R s m args meth c g 0 0 cc nL own F Lc) {Post : Int64 → zST → Prop} (hr : meth.sig.returnType = some .long) {v : Int64} (hp : Post v σ) (hdg : decode cc pc = .ok (.lreturn, 1)) : zGG p l e R s m args below meth c (MQ below (va_Ql Post (zBB g) (zA g)) args s 0 0 (zA g)) g 0 0 nL pc lv [.long v] σ := by
  intro H locs ls hP hS hl
  have hlocks : meth.locks = false := C.2.2.2.2.2.2.1
  exact W.lret (v := v) C.1 C.2.1 hr (fun t ht hW => ⟨⟨v, σ, rfl, hp, by show va_P _ _ _ t.heap; rw [ht]; exact hP⟩, hS.F ht⟩) hS.2.2 hdg
theorem zr_vret (C : zCX p R s m args meth c g 0 0 cc nL own F Lc) {Post : zST → Prop} (hr : meth.sig.returnType = none) (hp : Post σ) (hdg : decode cc pc = .ok (.return_, 1)) : zGG p l e R s m args below meth c (MQ below (va_Qv Post (zBB g) (zA g)) args s 0 0 (zA g)) g 0 0 nL pc lv [] σ := by
  intro H locs ls hP hS hl
  have hlocks : meth.locks = false := C.2.2.2.2.2.2.1
  exact W.vret C.1 C.2.1 hr (fun t ht hW => ⟨⟨σ, rfl, hp, by show va_P _ _ _ t.heap; rw [ht]; exact hP⟩, hS.F ht⟩) hS.2.2 hdg
theorem zr_aret (C : zCX p R s m args meth c g 0 0 cc nL own F Lc) {Post : Nat → zST → Prop} {cn : String} (hr : meth.sig.returnType = some (.object cn)) {a : Nat} (hp : Post a σ) (hdg : decode cc pc = .ok (.areturn, 1)) : zGG p l e R s m args below meth c (MQ below (va_Qr (zPr g Post) (zBr g) (zA g)) args s 0 0 (zA g)) g 0 0 nL pc lv [.ref (g.2.1 a)] σ := by
  intro H locs ls hP hS hl
  have hlocks : meth.locks = false := C.2.2.2.2.2.2.1
  exact W.aret C.1 C.2.1 hr (Or.inl ⟨cn, rfl⟩) (Or.inr ⟨_, rfl⟩) (fun t ht hW => ⟨⟨(a, σ), g.2.1 a, rfl, hp, rfl, by show va_P _ _ _ t.heap; rw [ht]; exact hP⟩, hS.F ht⟩) hS.2.2 hdg
end ZQ
end
