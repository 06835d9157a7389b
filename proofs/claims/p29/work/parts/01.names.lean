-- ===== PART A: goes FIRST, ahead of the names: the tables' words, and 'selects' of the private methods out of them =====
/-- a private method of a class that the tables say can be made, by its rows of tables_1 -/
def lw_okq (q : MethodName × Nat) : Prop := (q.1.cls ≠ "java/lang/invoke/MethodHandle" ∧ q.1.cls ≠ "java/lang/invoke/VarHandle") ∧ Cond.instantiable q.1.cls q.2 ∈ tables_1 ∧ Cond.privateMethod q.1 ∈ tables_1 ∧ Cond.instanceMethod q.1 ∈ tables_1
theorem lw_p0 : lw_okq (⟨"StraitFleet$Pad", "holds", "(I)Z"⟩, 2) := ⟨⟨by decide +kernel, by decide +kernel⟩, List.mem_of_getElem? (i := 152) (by decide +kernel), List.mem_of_getElem? (i := 296) (by decide +kernel), List.mem_of_getElem? (i := 297) (by decide +kernel)⟩
theorem lw_p1 : lw_okq (⟨"StraitFleet$Sea", "sendByTeeth", "(I)V"⟩, 9) := ⟨⟨by decide +kernel, by decide +kernel⟩, List.mem_of_getElem? (i := 29) (by decide +kernel), List.mem_of_getElem? (i := 346) (by decide +kernel), List.mem_of_getElem? (i := 347) (by decide +kernel)⟩
theorem lw_p2 : lw_okq (⟨"StraitFleet$Sea", "menToTeeth", "(I)I"⟩, 9) := ⟨⟨by decide +kernel, by decide +kernel⟩, List.mem_of_getElem? (i := 29) (by decide +kernel), List.mem_of_getElem? (i := 350) (by decide +kernel), List.mem_of_getElem? (i := 351) (by decide +kernel)⟩
theorem lw_p3 : lw_okq (⟨"StraitFleet$Sea", "lose", "(I)V"⟩, 9) := ⟨⟨by decide +kernel, by decide +kernel⟩, List.mem_of_getElem? (i := 29) (by decide +kernel), List.mem_of_getElem? (i := 358) (by decide +kernel), List.mem_of_getElem? (i := 359) (by decide +kernel)⟩
theorem lw_p4 : lw_okq (⟨"StraitFleet$Sea", "sendByWhirl", "(II)V"⟩, 9) := ⟨⟨by decide +kernel, by decide +kernel⟩, List.mem_of_getElem? (i := 29) (by decide +kernel), List.mem_of_getElem? (i := 362) (by decide +kernel), List.mem_of_getElem? (i := 363) (by decide +kernel)⟩
theorem lw_p5 : lw_okq (⟨"StraitFleet", "seasonCanBe", "()Z"⟩, 7) := ⟨⟨by decide +kernel, by decide +kernel⟩, List.mem_of_getElem? (i := 15) (by decide +kernel), List.mem_of_getElem? (i := 390) (by decide +kernel), List.mem_of_getElem? (i := 391) (by decide +kernel)⟩
theorem lw_p6 : lw_okq (⟨"StraitFleet", "refusalOf", "(II)I"⟩, 7) := ⟨⟨by decide +kernel, by decide +kernel⟩, List.mem_of_getElem? (i := 15) (by decide +kernel), List.mem_of_getElem? (i := 434) (by decide +kernel), List.mem_of_getElem? (i := 435) (by decide +kernel)⟩
theorem lw_p7 : lw_okq (⟨"StraitFleet$Fleet", "spreadChoices", "()I"⟩, 6) := ⟨⟨by decide +kernel, by decide +kernel⟩, List.mem_of_getElem? (i := 189) (by decide +kernel), List.mem_of_getElem? (i := 469) (by decide +kernel), List.mem_of_getElem? (i := 470) (by decide +kernel)⟩
theorem lw_p8 : lw_okq (⟨"StraitFleet$Fleet", "widenFront", "(II)I"⟩, 6) := ⟨⟨by decide +kernel, by decide +kernel⟩, List.mem_of_getElem? (i := 189) (by decide +kernel), List.mem_of_getElem? (i := 496) (by decide +kernel), List.mem_of_getElem? (i := 497) (by decide +kernel)⟩
theorem lw_p9 : lw_okq (⟨"StraitFleet$Sea", "captainGets", "(IIII)I"⟩, 9) := ⟨⟨by decide +kernel, by decide +kernel⟩, List.mem_of_getElem? (i := 29) (by decide +kernel), List.mem_of_getElem? (i := 530) (by decide +kernel), List.mem_of_getElem? (i := 531) (by decide +kernel)⟩
theorem lw_p10 : lw_okq (⟨"StraitFleet$Sea", "rewardFor", "(II)I"⟩, 9) := ⟨⟨by decide +kernel, by decide +kernel⟩, List.mem_of_getElem? (i := 29) (by decide +kernel), List.mem_of_getElem? (i := 534) (by decide +kernel), List.mem_of_getElem? (i := 535) (by decide +kernel)⟩
theorem lw_p11 : lw_okq (⟨"StraitFleet$Rolls", "rollsWith", "(IZ)I"⟩, 3) := ⟨⟨by decide +kernel, by decide +kernel⟩, List.mem_of_getElem? (i := 116) (by decide +kernel), List.mem_of_getElem? (i := 629) (by decide +kernel), List.mem_of_getElem? (i := 630) (by decide +kernel)⟩
theorem lw_p12 : lw_okq (⟨"StraitFleet", "imageBooks", "(I)LStraitFleet$Books;"⟩, 7) := ⟨⟨by decide +kernel, by decide +kernel⟩, List.mem_of_getElem? (i := 15) (by decide +kernel), List.mem_of_getElem? (i := 647) (by decide +kernel), List.mem_of_getElem? (i := 648) (by decide +kernel)⟩
theorem lw_p13 : lw_okq (⟨"StraitFleetModel", "isShip", "(I)Z"⟩, 40) := ⟨⟨by decide +kernel, by decide +kernel⟩, List.mem_of_getElem? (i := 679) (by decide +kernel), List.mem_of_getElem? (i := 828) (by decide +kernel), List.mem_of_getElem? (i := 829) (by decide +kernel)⟩
theorem lw_p14 : lw_okq (⟨"StraitFleetModel", "toldSet", "(I)I"⟩, 40) := ⟨⟨by decide +kernel, by decide +kernel⟩, List.mem_of_getElem? (i := 679) (by decide +kernel), List.mem_of_getElem? (i := 840) (by decide +kernel), List.mem_of_getElem? (i := 841) (by decide +kernel)⟩
theorem lw_p15 : lw_okq (⟨"StraitFleetModel", "faultOfTide", "()I"⟩, 40) := ⟨⟨by decide +kernel, by decide +kernel⟩, List.mem_of_getElem? (i := 679) (by decide +kernel), List.mem_of_getElem? (i := 858) (by decide +kernel), List.mem_of_getElem? (i := 859) (by decide +kernel)⟩
def lw_privs_1 : List (MethodName × Nat) := [(⟨"StraitFleet$Pad", "holds", "(I)Z"⟩, 2), (⟨"StraitFleet$Sea", "sendByTeeth", "(I)V"⟩, 9), (⟨"StraitFleet$Sea", "menToTeeth", "(I)I"⟩, 9), (⟨"StraitFleet$Sea", "lose", "(I)V"⟩, 9), (⟨"StraitFleet$Sea", "sendByWhirl", "(II)V"⟩, 9), (⟨"StraitFleet", "seasonCanBe", "()Z"⟩, 7), (⟨"StraitFleet", "refusalOf", "(II)I"⟩, 7), (⟨"StraitFleet$Fleet", "spreadChoices", "()I"⟩, 6), (⟨"StraitFleet$Fleet", "widenFront", "(II)I"⟩, 6), (⟨"StraitFleet$Sea", "captainGets", "(IIII)I"⟩, 9), (⟨"StraitFleet$Sea", "rewardFor", "(II)I"⟩, 9), (⟨"StraitFleet$Rolls", "rollsWith", "(IZ)I"⟩, 3), (⟨"StraitFleet", "imageBooks", "(I)LStraitFleet$Books;"⟩, 7), (⟨"StraitFleetModel", "isShip", "(I)Z"⟩, 40), (⟨"StraitFleetModel", "toldSet", "(I)I"⟩, 40), (⟨"StraitFleetModel", "faultOfTide", "()I"⟩, 40)]
theorem lw_r1 : ∀ q ∈ lw_privs_1, lw_okq q := List.forall_mem_cons.mpr ⟨lw_p0, List.forall_mem_cons.mpr ⟨lw_p1, List.forall_mem_cons.mpr ⟨lw_p2, List.forall_mem_cons.mpr ⟨lw_p3, List.forall_mem_cons.mpr ⟨lw_p4, List.forall_mem_cons.mpr ⟨lw_p5, List.forall_mem_cons.mpr ⟨lw_p6, List.forall_mem_cons.mpr ⟨lw_p7, List.forall_mem_cons.mpr ⟨lw_p8, List.forall_mem_cons.mpr ⟨lw_p9, List.forall_mem_cons.mpr ⟨lw_p10, List.forall_mem_cons.mpr ⟨lw_p11, List.forall_mem_cons.mpr ⟨lw_p12, List.forall_mem_cons.mpr ⟨lw_p13, List.forall_mem_cons.mpr ⟨lw_p14, List.forall_mem_cons.mpr ⟨lw_p15, fun _ h => absurd h List.not_mem_nil⟩⟩⟩⟩⟩⟩⟩⟩⟩⟩⟩⟩⟩⟩⟩⟩
theorem lw_p16 : lw_okq (⟨"StraitFleetModel", "faultOfSeason", "()I"⟩, 40) := ⟨⟨by decide +kernel, by decide +kernel⟩, List.mem_of_getElem? (i := 679) (by decide +kernel), List.mem_of_getElem? (i := 864) (by decide +kernel), List.mem_of_getElem? (i := 865) (by decide +kernel)⟩
theorem lw_p17 : lw_okq (⟨"StraitFleetModel", "keepNow", "()V"⟩, 40) := ⟨⟨by decide +kernel, by decide +kernel⟩, List.mem_of_getElem? (i := 679) (by decide +kernel), List.mem_of_getElem? (i := 878) (by decide +kernel), List.mem_of_getElem? (i := 879) (by decide +kernel)⟩
theorem lw_p18 : lw_okq (⟨"StraitFleetModel", "goSeason", "()V"⟩, 40) := ⟨⟨by decide +kernel, by decide +kernel⟩, List.mem_of_getElem? (i := 679) (by decide +kernel), List.mem_of_getElem? (i := 882) (by decide +kernel), List.mem_of_getElem? (i := 883) (by decide +kernel)⟩
theorem lw_p19 : lw_okq (⟨"StraitFleetModel", "order", "(III)V"⟩, 40) := ⟨⟨by decide +kernel, by decide +kernel⟩, List.mem_of_getElem? (i := 679) (by decide +kernel), List.mem_of_getElem? (i := 886) (by decide +kernel), List.mem_of_getElem? (i := 887) (by decide +kernel)⟩
theorem lw_p20 : lw_okq (⟨"StraitFleetModel", "goTeeth", "(I)V"⟩, 40) := ⟨⟨by decide +kernel, by decide +kernel⟩, List.mem_of_getElem? (i := 679) (by decide +kernel), List.mem_of_getElem? (i := 890) (by decide +kernel), List.mem_of_getElem? (i := 891) (by decide +kernel)⟩
theorem lw_p21 : lw_okq (⟨"StraitFleetModel", "lostByTeeth", "(I)I"⟩, 40) := ⟨⟨by decide +kernel, by decide +kernel⟩, List.mem_of_getElem? (i := 679) (by decide +kernel), List.mem_of_getElem? (i := 894) (by decide +kernel), List.mem_of_getElem? (i := 895) (by decide +kernel)⟩
theorem lw_p22 : lw_okq (⟨"StraitFleetModel", "goWhirl", "(II)V"⟩, 40) := ⟨⟨by decide +kernel, by decide +kernel⟩, List.mem_of_getElem? (i := 679) (by decide +kernel), List.mem_of_getElem? (i := 898) (by decide +kernel), List.mem_of_getElem? (i := 899) (by decide +kernel)⟩
theorem lw_p23 : lw_okq (⟨"StraitFleetModel", "tenths", "(I)I"⟩, 40) := ⟨⟨by decide +kernel, by decide +kernel⟩, List.mem_of_getElem? (i := 679) (by decide +kernel), List.mem_of_getElem? (i := 905) (by decide +kernel), List.mem_of_getElem? (i := 906) (by decide +kernel)⟩
theorem lw_p24 : lw_okq (⟨"StraitFleetModel", "goCape", "(I)V"⟩, 40) := ⟨⟨by decide +kernel, by decide +kernel⟩, List.mem_of_getElem? (i := 679) (by decide +kernel), List.mem_of_getElem? (i := 909) (by decide +kernel), List.mem_of_getElem? (i := 910) (by decide +kernel)⟩
theorem lw_p25 : lw_okq (⟨"StraitFleetModel", "putBack", "()V"⟩, 40) := ⟨⟨by decide +kernel, by decide +kernel⟩, List.mem_of_getElem? (i := 679) (by decide +kernel), List.mem_of_getElem? (i := 913) (by decide +kernel), List.mem_of_getElem? (i := 914) (by decide +kernel)⟩
theorem lw_p26 : lw_okq (⟨"StraitFleetModel", "stateOf", "(II)I"⟩, 40) := ⟨⟨by decide +kernel, by decide +kernel⟩, List.mem_of_getElem? (i := 679) (by decide +kernel), List.mem_of_getElem? (i := 922) (by decide +kernel), List.mem_of_getElem? (i := 923) (by decide +kernel)⟩
theorem lw_p27 : lw_okq (⟨"StraitFleetModel", "meanOf", "(III)I"⟩, 40) := ⟨⟨by decide +kernel, by decide +kernel⟩, List.mem_of_getElem? (i := 679) (by decide +kernel), List.mem_of_getElem? (i := 948) (by decide +kernel), List.mem_of_getElem? (i := 949) (by decide +kernel)⟩
theorem lw_p28 : lw_okq (⟨"StraitFleetModel", "teethTake", "(I)I"⟩, 40) := ⟨⟨by decide +kernel, by decide +kernel⟩, List.mem_of_getElem? (i := 679) (by decide +kernel), List.mem_of_getElem? (i := 952) (by decide +kernel), List.mem_of_getElem? (i := 953) (by decide +kernel)⟩
theorem lw_p29 : lw_okq (⟨"StraitFleetModel", "allOf", "(I)I"⟩, 40) := ⟨⟨by decide +kernel, by decide +kernel⟩, List.mem_of_getElem? (i := 679) (by decide +kernel), List.mem_of_getElem? (i := 956) (by decide +kernel), List.mem_of_getElem? (i := 957) (by decide +kernel)⟩
theorem lw_p30 : lw_okq (⟨"StraitFleetModel", "worstOf", "(III)I"⟩, 40) := ⟨⟨by decide +kernel, by decide +kernel⟩, List.mem_of_getElem? (i := 679) (by decide +kernel), List.mem_of_getElem? (i := 964) (by decide +kernel), List.mem_of_getElem? (i := 965) (by decide +kernel)⟩
theorem lw_p31 : lw_okq (⟨"StraitFleetModel", "choiceOf", "(II)I"⟩, 40) := ⟨⟨by decide +kernel, by decide +kernel⟩, List.mem_of_getElem? (i := 679) (by decide +kernel), List.mem_of_getElem? (i := 972) (by decide +kernel), List.mem_of_getElem? (i := 973) (by decide +kernel)⟩
def lw_privs_2 : List (MethodName × Nat) := [(⟨"StraitFleetModel", "faultOfSeason", "()I"⟩, 40), (⟨"StraitFleetModel", "keepNow", "()V"⟩, 40), (⟨"StraitFleetModel", "goSeason", "()V"⟩, 40), (⟨"StraitFleetModel", "order", "(III)V"⟩, 40), (⟨"StraitFleetModel", "goTeeth", "(I)V"⟩, 40), (⟨"StraitFleetModel", "lostByTeeth", "(I)I"⟩, 40), (⟨"StraitFleetModel", "goWhirl", "(II)V"⟩, 40), (⟨"StraitFleetModel", "tenths", "(I)I"⟩, 40), (⟨"StraitFleetModel", "goCape", "(I)V"⟩, 40), (⟨"StraitFleetModel", "putBack", "()V"⟩, 40), (⟨"StraitFleetModel", "stateOf", "(II)I"⟩, 40), (⟨"StraitFleetModel", "meanOf", "(III)I"⟩, 40), (⟨"StraitFleetModel", "teethTake", "(I)I"⟩, 40), (⟨"StraitFleetModel", "allOf", "(I)I"⟩, 40), (⟨"StraitFleetModel", "worstOf", "(III)I"⟩, 40), (⟨"StraitFleetModel", "choiceOf", "(II)I"⟩, 40)]
theorem lw_r2 : ∀ q ∈ lw_privs_2, lw_okq q := List.forall_mem_cons.mpr ⟨lw_p16, List.forall_mem_cons.mpr ⟨lw_p17, List.forall_mem_cons.mpr ⟨lw_p18, List.forall_mem_cons.mpr ⟨lw_p19, List.forall_mem_cons.mpr ⟨lw_p20, List.forall_mem_cons.mpr ⟨lw_p21, List.forall_mem_cons.mpr ⟨lw_p22, List.forall_mem_cons.mpr ⟨lw_p23, List.forall_mem_cons.mpr ⟨lw_p24, List.forall_mem_cons.mpr ⟨lw_p25, List.forall_mem_cons.mpr ⟨lw_p26, List.forall_mem_cons.mpr ⟨lw_p27, List.forall_mem_cons.mpr ⟨lw_p28, List.forall_mem_cons.mpr ⟨lw_p29, List.forall_mem_cons.mpr ⟨lw_p30, List.forall_mem_cons.mpr ⟨lw_p31, fun _ h => absurd h List.not_mem_nil⟩⟩⟩⟩⟩⟩⟩⟩⟩⟩⟩⟩⟩⟩⟩⟩
theorem lw_p32 : lw_okq (⟨"StraitFleetModel", "isInHarbour", "(I)Z"⟩, 40) := ⟨⟨by decide +kernel, by decide +kernel⟩, List.mem_of_getElem? (i := 679) (by decide +kernel), List.mem_of_getElem? (i := 986) (by decide +kernel), List.mem_of_getElem? (i := 987) (by decide +kernel)⟩
theorem lw_p33 : lw_okq (⟨"StraitFleetModel", "layFleet", "(I)V"⟩, 40) := ⟨⟨by decide +kernel, by decide +kernel⟩, List.mem_of_getElem? (i := 679) (by decide +kernel), List.mem_of_getElem? (i := 991) (by decide +kernel), List.mem_of_getElem? (i := 992) (by decide +kernel)⟩
theorem lw_p34 : lw_okq (⟨"StraitFleetModel", "behindIt", "(I)I"⟩, 40) := ⟨⟨by decide +kernel, by decide +kernel⟩, List.mem_of_getElem? (i := 679) (by decide +kernel), List.mem_of_getElem? (i := 995) (by decide +kernel), List.mem_of_getElem? (i := 996) (by decide +kernel)⟩
theorem lw_p35 : lw_okq (⟨"StraitFleetModel", "isOnLine", "(I)Z"⟩, 40) := ⟨⟨by decide +kernel, by decide +kernel⟩, List.mem_of_getElem? (i := 679) (by decide +kernel), List.mem_of_getElem? (i := 1003) (by decide +kernel), List.mem_of_getElem? (i := 1004) (by decide +kernel)⟩
theorem lw_p36 : lw_okq (⟨"StraitFleetModel", "lessThan", "(I)I"⟩, 40) := ⟨⟨by decide +kernel, by decide +kernel⟩, List.mem_of_getElem? (i := 679) (by decide +kernel), List.mem_of_getElem? (i := 1007) (by decide +kernel), List.mem_of_getElem? (i := 1008) (by decide +kernel)⟩
theorem lw_p37 : lw_okq (⟨"StraitFleetModel", "captainBy", "(III)I"⟩, 40) := ⟨⟨by decide +kernel, by decide +kernel⟩, List.mem_of_getElem? (i := 679) (by decide +kernel), List.mem_of_getElem? (i := 1019) (by decide +kernel), List.mem_of_getElem? (i := 1020) (by decide +kernel)⟩
theorem lw_p38 : lw_okq (⟨"StraitFleetModel", "gets", "(IIII)I"⟩, 40) := ⟨⟨by decide +kernel, by decide +kernel⟩, List.mem_of_getElem? (i := 679) (by decide +kernel), List.mem_of_getElem? (i := 1023) (by decide +kernel), List.mem_of_getElem? (i := 1024) (by decide +kernel)⟩
theorem lw_p39 : lw_okq (⟨"StraitFleetModel", "got", "(I)I"⟩, 40) := ⟨⟨by decide +kernel, by decide +kernel⟩, List.mem_of_getElem? (i := 679) (by decide +kernel), List.mem_of_getElem? (i := 1045) (by decide +kernel), List.mem_of_getElem? (i := 1046) (by decide +kernel)⟩
theorem lw_p40 : lw_okq (⟨"StraitFleetModel", "premiums", "(I)I"⟩, 40) := ⟨⟨by decide +kernel, by decide +kernel⟩, List.mem_of_getElem? (i := 679) (by decide +kernel), List.mem_of_getElem? (i := 1049) (by decide +kernel), List.mem_of_getElem? (i := 1050) (by decide +kernel)⟩
theorem lw_p41 : lw_okq (⟨"StraitFleetModel", "isAboard", "(I)Z"⟩, 40) := ⟨⟨by decide +kernel, by decide +kernel⟩, List.mem_of_getElem? (i := 679) (by decide +kernel), List.mem_of_getElem? (i := 1062) (by decide +kernel), List.mem_of_getElem? (i := 1063) (by decide +kernel)⟩
theorem lw_p42 : lw_okq (⟨"StraitFleetModel", "passAll", "()V"⟩, 40) := ⟨⟨by decide +kernel, by decide +kernel⟩, List.mem_of_getElem? (i := 679) (by decide +kernel), List.mem_of_getElem? (i := 1112) (by decide +kernel), List.mem_of_getElem? (i := 1113) (by decide +kernel)⟩
theorem lw_p43 : lw_okq (⟨"StraitFleetModel", "passNumbers", "()V"⟩, 40) := ⟨⟨by decide +kernel, by decide +kernel⟩, List.mem_of_getElem? (i := 679) (by decide +kernel), List.mem_of_getElem? (i := 1116) (by decide +kernel), List.mem_of_getElem? (i := 1117) (by decide +kernel)⟩
theorem lw_p44 : lw_okq (⟨"StraitFleetModel", "pass", "(I)I"⟩, 40) := ⟨⟨by decide +kernel, by decide +kernel⟩, List.mem_of_getElem? (i := 679) (by decide +kernel), List.mem_of_getElem? (i := 1120) (by decide +kernel), List.mem_of_getElem? (i := 1121) (by decide +kernel)⟩
theorem lw_p45 : lw_okq (⟨"StraitFleetModel", "toldMany", "(I)I"⟩, 40) := ⟨⟨by decide +kernel, by decide +kernel⟩, List.mem_of_getElem? (i := 679) (by decide +kernel), List.mem_of_getElem? (i := 1137) (by decide +kernel), List.mem_of_getElem? (i := 1138) (by decide +kernel)⟩
def lw_privs_3 : List (MethodName × Nat) := [(⟨"StraitFleetModel", "isInHarbour", "(I)Z"⟩, 40), (⟨"StraitFleetModel", "layFleet", "(I)V"⟩, 40), (⟨"StraitFleetModel", "behindIt", "(I)I"⟩, 40), (⟨"StraitFleetModel", "isOnLine", "(I)Z"⟩, 40), (⟨"StraitFleetModel", "lessThan", "(I)I"⟩, 40), (⟨"StraitFleetModel", "captainBy", "(III)I"⟩, 40), (⟨"StraitFleetModel", "gets", "(IIII)I"⟩, 40), (⟨"StraitFleetModel", "got", "(I)I"⟩, 40), (⟨"StraitFleetModel", "premiums", "(I)I"⟩, 40), (⟨"StraitFleetModel", "isAboard", "(I)Z"⟩, 40), (⟨"StraitFleetModel", "passAll", "()V"⟩, 40), (⟨"StraitFleetModel", "passNumbers", "()V"⟩, 40), (⟨"StraitFleetModel", "pass", "(I)I"⟩, 40), (⟨"StraitFleetModel", "toldMany", "(I)I"⟩, 40)]
theorem lw_r3 : ∀ q ∈ lw_privs_3, lw_okq q := List.forall_mem_cons.mpr ⟨lw_p32, List.forall_mem_cons.mpr ⟨lw_p33, List.forall_mem_cons.mpr ⟨lw_p34, List.forall_mem_cons.mpr ⟨lw_p35, List.forall_mem_cons.mpr ⟨lw_p36, List.forall_mem_cons.mpr ⟨lw_p37, List.forall_mem_cons.mpr ⟨lw_p38, List.forall_mem_cons.mpr ⟨lw_p39, List.forall_mem_cons.mpr ⟨lw_p40, List.forall_mem_cons.mpr ⟨lw_p41, List.forall_mem_cons.mpr ⟨lw_p42, List.forall_mem_cons.mpr ⟨lw_p43, List.forall_mem_cons.mpr ⟨lw_p44, List.forall_mem_cons.mpr ⟨lw_p45, fun _ h => absurd h List.not_mem_nil⟩⟩⟩⟩⟩⟩⟩⟩⟩⟩⟩⟩⟩⟩
def lw_privs : List (MethodName × Nat) := lw_privs_1 ++ (lw_privs_2 ++ (lw_privs_3))
def lw_tbl : List Cond := k2_sels lw_privs ++ tables_1
theorem lw_privs_ok : ∀ q ∈ lw_privs, lw_okq q := by
  show ∀ q ∈ lw_privs_1 ++ (lw_privs_2 ++ (lw_privs_3)), lw_okq q
  exact List.forall_mem_append.mpr ⟨lw_r1, List.forall_mem_append.mpr ⟨lw_r2, lw_r3⟩⟩
def RX0 : String := "StraitFleet$Books"
def TX0 : u_T := fun k => match k with
  | 0 => ("StraitFleet$Books", "sea", "LStraitFleet$Sea;", true)
  | 1 => ("StraitFleet$Books", "insurers", "LStraitFleet$Insurers;", true)
  | 2 => ("StraitFleet$Books", "crew", "LStraitFleet$Crew;", true)
  | _ => ("StraitFleet$Books", "rolls", "LStraitFleet$Rolls;", true)
def tyX0 : Nat → FieldType := fun k => match k with
  | 0 => .object "StraitFleet$Sea"
  | 1 => .object "StraitFleet$Insurers"
  | 2 => .object "StraitFleet$Crew"
  | _ => .object "StraitFleet$Rolls"
abbrev wsX00 : List Cond := u_ws RX0 TX0 4
theorem nmX0 : ∀ a, a < 4 → ∀ b, b < 4 → a ≠ b → (TX0 a).2.1 ≠ (TX0 b).2.1 := by decide +kernel
theorem tyX0_ok : ∀ k, k < 4 → parseFieldDescriptor (TX0 k).2.2.1 = some (tyX0 k) := by decide +kernel
abbrev cX0_init : ByteArray := prog_2_method_1_code
def yX0_init : MethodName := ⟨RX0, "<init>", "()V"⟩
abbrev cX0_become : ByteArray := prog_2_method_2_code
def yX0_become : MethodName := ⟨RX0, "become", "(LStraitFleet$Books;)V"⟩
def RX1 : String := "StraitFleet$Crew"
def TX1 : u_T := fun k => match k with
  | 0 => ("StraitFleet$Crew", "there", "I", false)
  | _ => ("StraitFleet$Crew", "drawn", "[I", true)
def tyX1 : Nat → FieldType := fun k => match k with
  | 0 => .int
  | _ => .array .int
abbrev wsX10 : List Cond := u_ws RX1 TX1 2
theorem nmX1 : ∀ a, a < 2 → ∀ b, b < 2 → a ≠ b → (TX1 a).2.1 ≠ (TX1 b).2.1 := by decide +kernel
theorem tyX1_ok : ∀ k, k < 2 → parseFieldDescriptor (TX1 k).2.2.1 = some (tyX1 k) := by decide +kernel
abbrev cX1_init : ByteArray := prog_3_method_1_code
def yX1_init : MethodName := ⟨RX1, "<init>", "()V"⟩
abbrev cX1_become : ByteArray := prog_3_method_2_code
def yX1_become : MethodName := ⟨RX1, "become", "(LStraitFleet$Crew;)V"⟩
abbrev cX1_has : ByteArray := prog_3_method_3_code
def yX1_has : MethodName := ⟨RX1, "has", "(I)Z"⟩
abbrev cX1_countDrawn : ByteArray := prog_3_method_4_code
def yX1_countDrawn : MethodName := ⟨RX1, "countDrawn", "(II)I"⟩
def RX2 : String := "StraitFleet$Fleet"
def TX2 : u_T := fun k => match k with
  | 0 => ("StraitFleet$Fleet", "moored", "[I", true)
  | 1 => ("StraitFleet$Fleet", "count", "I", false)
  | 2 => ("StraitFleet$Fleet", "costs", "[J", true)
  | 3 => ("StraitFleet$Fleet", "choices", "[J", true)
  | 4 => ("StraitFleet$Fleet", "front", "[J", true)
  | _ => ("StraitFleet$Fleet", "next", "[J", true)
def tyX2 : Nat → FieldType := fun k => match k with
  | 0 => .array .int
  | 1 => .int
  | 2 => .array .long
  | 3 => .array .long
  | 4 => .array .long
  | _ => .array .long
abbrev wsX20 : List Cond := u_ws RX2 TX2 6
theorem nmX2 : ∀ a, a < 6 → ∀ b, b < 6 → a ≠ b → (TX2 a).2.1 ≠ (TX2 b).2.1 := by decide +kernel
theorem tyX2_ok : ∀ k, k < 6 → parseFieldDescriptor (TX2 k).2.2.1 = some (tyX2 k) := by decide +kernel
abbrev cX2_init : ByteArray := prog_4_method_1_code
def yX2_init : MethodName := ⟨RX2, "<init>", "()V"⟩
abbrev cX2_gather : ByteArray := prog_4_method_2_code
def yX2_gather : MethodName := ⟨RX2, "gather", "(LStraitFleet$Sea;I)V"⟩
abbrev cX2_meanIn : ByteArray := prog_4_method_3_code
def yX2_meanIn : MethodName := ⟨RX2, "meanIn", "(J)I"⟩
abbrev cX2_worstIn : ByteArray := prog_4_method_4_code
def yX2_worstIn : MethodName := ⟨RX2, "worstIn", "(J)I"⟩
abbrev cX2_spreadChoices : ByteArray := prog_4_method_5_code
def yX2_spreadChoices : MethodName := ⟨RX2, "spreadChoices", "()I"⟩
abbrev cX2_leastWithin : ByteArray := prog_4_method_6_code
def yX2_leastWithin : MethodName := ⟨RX2, "leastWithin", "(I)I"⟩
abbrev cX2_meanOfChoice : ByteArray := prog_4_method_7_code
def yX2_meanOfChoice : MethodName := ⟨RX2, "meanOfChoice", "(I)I"⟩
abbrev cX2_sideInChoice : ByteArray := prog_4_method_8_code
def yX2_sideInChoice : MethodName := ⟨RX2, "sideInChoice", "(II)I"⟩
abbrev cX2_drawLine : ByteArray := prog_4_method_9_code
def yX2_drawLine : MethodName := ⟨RX2, "drawLine", "()I"⟩
abbrev cX2_widenFront : ByteArray := prog_4_method_10_code
def yX2_widenFront : MethodName := ⟨RX2, "widenFront", "(II)I"⟩
abbrev cX2_onLine : ByteArray := prog_4_method_11_code
def yX2_onLine : MethodName := ⟨RX2, "onLine", "(II)I"⟩
abbrev cX2_commonSide : ByteArray := prog_4_method_12_code
def yX2_commonSide : MethodName := ⟨RX2, "commonSide", "()I"⟩
abbrev cX2_meanOfAllBy : ByteArray := prog_4_method_13_code
def yX2_meanOfAllBy : MethodName := ⟨RX2, "meanOfAllBy", "(I)I"⟩
def RX3 : String := "StraitFleet$Insurers"
def TX3 : u_T := fun k => match k with
  | 0 => ("StraitFleet$Insurers", "there", "I", false)
  | 1 => ("StraitFleet$Insurers", "premium", "[I", true)
  | _ => ("StraitFleet$Insurers", "pays", "[I", true)
def tyX3 : Nat → FieldType := fun k => match k with
  | 0 => .int
  | 1 => .array .int
  | _ => .array .int
abbrev wsX30 : List Cond := u_ws RX3 TX3 3
theorem nmX3 : ∀ a, a < 3 → ∀ b, b < 3 → a ≠ b → (TX3 a).2.1 ≠ (TX3 b).2.1 := by decide +kernel
theorem tyX3_ok : ∀ k, k < 3 → parseFieldDescriptor (TX3 k).2.2.1 = some (tyX3 k) := by decide +kernel
abbrev cX3_init : ByteArray := prog_5_method_1_code
def yX3_init : MethodName := ⟨RX3, "<init>", "()V"⟩
abbrev cX3_become : ByteArray := prog_5_method_2_code
def yX3_become : MethodName := ⟨RX3, "become", "(LStraitFleet$Insurers;)V"⟩
abbrev cX3_worthTaking : ByteArray := prog_5_method_3_code
def yX3_worthTaking : MethodName := ⟨RX3, "worthTaking", "(I)I"⟩
abbrev cX3_premiumsOf : ByteArray := prog_5_method_4_code
def yX3_premiumsOf : MethodName := ⟨RX3, "premiumsOf", "(I)I"⟩
abbrev cX3_paysOf : ByteArray := prog_5_method_5_code
def yX3_paysOf : MethodName := ⟨RX3, "paysOf", "(I)I"⟩
abbrev cX3_sumOver : ByteArray := prog_5_method_6_code
def yX3_sumOver : MethodName := ⟨RX3, "sumOver", "(I[I)I"⟩
def RX4 : String := "StraitFleet$Pad"
def TX4 : u_T := fun k => match k with
  | 0 => ("StraitFleet$Pad", "signs", "[I", true)
  | _ => ("StraitFleet$Pad", "count", "I", false)
def tyX4 : Nat → FieldType := fun k => match k with
  | 0 => .array .int
  | _ => .int
abbrev wsX40 : List Cond := u_ws RX4 TX4 2
theorem nmX4 : ∀ a, a < 2 → ∀ b, b < 2 → a ≠ b → (TX4 a).2.1 ≠ (TX4 b).2.1 := by decide +kernel
theorem tyX4_ok : ∀ k, k < 2 → parseFieldDescriptor (TX4 k).2.2.1 = some (tyX4 k) := by decide +kernel
abbrev cX4_init : ByteArray := prog_6_method_1_code
def yX4_init : MethodName := ⟨RX4, "<init>", "()V"⟩
abbrev cX4_clear : ByteArray := prog_6_method_2_code
def yX4_clear : MethodName := ⟨RX4, "clear", "()I"⟩
abbrev cX4_faultAsTide : ByteArray := prog_6_method_3_code
def yX4_faultAsTide : MethodName := ⟨RX4, "faultAsTide", "()I"⟩
abbrev cX4_faultAsSeason : ByteArray := prog_6_method_4_code
def yX4_faultAsSeason : MethodName := ⟨RX4, "faultAsSeason", "()I"⟩
abbrev cX4_hourPassesAt : ByteArray := prog_6_method_5_code
def yX4_hourPassesAt : MethodName := ⟨RX4, "hourPassesAt", "(I)Z"⟩
abbrev cX4_shipAt : ByteArray := prog_6_method_6_code
def yX4_shipAt : MethodName := ⟨RX4, "shipAt", "(I)I"⟩
abbrev cX4_sideAt : ByteArray := prog_6_method_7_code
def yX4_sideAt : MethodName := ⟨RX4, "sideAt", "(I)I"⟩
abbrev cX4_holds : ByteArray := prog_6_method_8_code
def yX4_holds : MethodName := ⟨RX4, "holds", "(I)Z"⟩
def RX5 : String := "StraitFleet$Rolls"
def TX5 : u_T := fun k => match k with
  | 0 => ("StraitFleet$Rolls", "count", "I", false)
  | 1 => ("StraitFleet$Rolls", "read", "[I", true)
  | _ => ("StraitFleet$Rolls", "room", "[I", true)
def tyX5 : Nat → FieldType := fun k => match k with
  | 0 => .int
  | 1 => .array .int
  | _ => .array .int
abbrev wsX50 : List Cond := u_ws RX5 TX5 3
theorem nmX5 : ∀ a, a < 3 → ∀ b, b < 3 → a ≠ b → (TX5 a).2.1 ≠ (TX5 b).2.1 := by decide +kernel
theorem tyX5_ok : ∀ k, k < 3 → parseFieldDescriptor (TX5 k).2.2.1 = some (tyX5 k) := by decide +kernel
abbrev cX5_init : ByteArray := prog_7_method_1_code
def yX5_init : MethodName := ⟨RX5, "<init>", "()V"⟩
abbrev cX5_become : ByteArray := prog_7_method_2_code
def yX5_become : MethodName := ⟨RX5, "become", "(LStraitFleet$Rolls;)V"⟩
abbrev cX5_namesOnTwo : ByteArray := prog_7_method_3_code
def yX5_namesOnTwo : MethodName := ⟨RX5, "namesOnTwo", "(Z)I"⟩
abbrev cX5_rollsWith : ByteArray := prog_7_method_4_code
def yX5_rollsWith : MethodName := ⟨RX5, "rollsWith", "(IZ)I"⟩
def RX6 : String := "StraitFleet$Sea"
def TX6 : u_T := fun k => match k with
  | 0 => ("StraitFleet$Sea", "there", "I", false)
  | 1 => ("StraitFleet$Sea", "where", "[I", true)
  | 2 => ("StraitFleet$Sea", "men", "[I", true)
  | 3 => ("StraitFleet$Sea", "straw", "[I", true)
  | 4 => ("StraitFleet$Sea", "cargo", "[I", true)
  | 5 => ("StraitFleet$Sea", "terms", "[I", true)
  | 6 => ("StraitFleet$Sea", "tenths", "[I", true)
  | 7 => ("StraitFleet$Sea", "digits", "I", false)
  | _ => ("StraitFleet$Sea", "sums", "[I", true)
def tyX6 : Nat → FieldType := fun k => match k with
  | 0 => .int
  | 1 => .array .int
  | 2 => .array .int
  | 3 => .array .int
  | 4 => .array .int
  | 5 => .array .int
  | 6 => .array .int
  | 7 => .int
  | _ => .array .int
abbrev wsX60 : List Cond := u_ws RX6 TX6 9
theorem nmX6 : ∀ a, a < 9 → ∀ b, b < 9 → a ≠ b → (TX6 a).2.1 ≠ (TX6 b).2.1 := by decide +kernel
theorem tyX6_ok : ∀ k, k < 9 → parseFieldDescriptor (TX6 k).2.2.1 = some (tyX6 k) := by decide +kernel
abbrev cX6_init : ByteArray := prog_8_method_1_code
def yX6_init : MethodName := ⟨RX6, "<init>", "()V"⟩
abbrev cX6_become : ByteArray := prog_8_method_2_code
def yX6_become : MethodName := ⟨RX6, "become", "(LStraitFleet$Sea;)V"⟩
abbrev cX6_has : ByteArray := prog_8_method_3_code
def yX6_has : MethodName := ⟨RX6, "has", "(I)Z"⟩
abbrev cX6_moored : ByteArray := prog_8_method_4_code
def yX6_moored : MethodName := ⟨RX6, "moored", "(I)Z"⟩
abbrev cX6_whyNot : ByteArray := prog_8_method_5_code
def yX6_whyNot : MethodName := ⟨RX6, "whyNot", "(I)I"⟩
abbrev cX6_look : ByteArray := prog_8_method_6_code
def yX6_look : MethodName := ⟨RX6, "look", "(II)I"⟩
abbrev cX6_digitAt : ByteArray := prog_8_method_7_code
def yX6_digitAt : MethodName := ⟨RX6, "digitAt", "(I)I"⟩
abbrev cX6_send : ByteArray := prog_8_method_8_code
def yX6_send : MethodName := ⟨RX6, "send", "(III)V"⟩
abbrev cX6_sendByTeeth : ByteArray := prog_8_method_9_code
def yX6_sendByTeeth : MethodName := ⟨RX6, "sendByTeeth", "(I)V"⟩
abbrev cX6_sendByWhirl : ByteArray := prog_8_method_10_code
def yX6_sendByWhirl : MethodName := ⟨RX6, "sendByWhirl", "(II)V"⟩
abbrev cX6_lose : ByteArray := prog_8_method_11_code
def yX6_lose : MethodName := ⟨RX6, "lose", "(I)V"⟩
abbrev cX6_menToTeeth : ByteArray := prog_8_method_12_code
def yX6_menToTeeth : MethodName := ⟨RX6, "menToTeeth", "(I)I"⟩
abbrev cX6_lostToTeeth : ByteArray := prog_8_method_13_code
def yX6_lostToTeeth : MethodName := ⟨RX6, "lostToTeeth", "(I)I"⟩
abbrev cX6_whole : ByteArray := prog_8_method_14_code
def yX6_whole : MethodName := ⟨RX6, "whole", "(I)I"⟩
abbrev cX6_fare : ByteArray := prog_8_method_15_code
def yX6_fare : MethodName := ⟨RX6, "fare", "(I)I"⟩
abbrev cX6_meanBy : ByteArray := prog_8_method_16_code
def yX6_meanBy : MethodName := ⟨RX6, "meanBy", "(III)I"⟩
abbrev cX6_worstBy : ByteArray := prog_8_method_17_code
def yX6_worstBy : MethodName := ⟨RX6, "worstBy", "(III)I"⟩
abbrev cX6_ownersSide : ByteArray := prog_8_method_18_code
def yX6_ownersSide : MethodName := ⟨RX6, "ownersSide", "(II)I"⟩
abbrev cX6_leastMean : ByteArray := prog_8_method_19_code
def yX6_leastMean : MethodName := ⟨RX6, "leastMean", "(II)I"⟩
abbrev cX6_captainsSide : ByteArray := prog_8_method_20_code
def yX6_captainsSide : MethodName := ⟨RX6, "captainsSide", "(III)I"⟩
abbrev cX6_captainGets : ByteArray := prog_8_method_21_code
def yX6_captainGets : MethodName := ⟨RX6, "captainGets", "(IIII)I"⟩
abbrev cX6_rewardFor : ByteArray := prog_8_method_22_code
def yX6_rewardFor : MethodName := ⟨RX6, "rewardFor", "(II)I"⟩
def RX7 : String := "StraitFleet$Season"
def TX7 : u_T := fun k => match k with
  | 0 => ("StraitFleet$Season", "sea", "LStraitFleet$Sea;", true)
  | 1 => ("StraitFleet$Season", "parts", "I", false)
  | _ => ("StraitFleet$Season", "why", "I", false)
def tyX7 : Nat → FieldType := fun k => match k with
  | 0 => .object "StraitFleet$Sea"
  | 1 => .int
  | _ => .int
abbrev wsX70 : List Cond := u_ws RX7 TX7 3
theorem nmX7 : ∀ a, a < 3 → ∀ b, b < 3 → a ≠ b → (TX7 a).2.1 ≠ (TX7 b).2.1 := by decide +kernel
theorem tyX7_ok : ∀ k, k < 3 → parseFieldDescriptor (TX7 k).2.2.1 = some (tyX7 k) := by decide +kernel
abbrev cX7_init : ByteArray := prog_9_method_1_code
def yX7_init : MethodName := ⟨RX7, "<init>", "()V"⟩
abbrev cX7_tryOut : ByteArray := prog_9_method_2_code
def yX7_tryOut : MethodName := ⟨RX7, "tryOut", "(LStraitFleet$Pad;LStraitFleet$Sea;)V"⟩
def RX8 : String := "StraitFleet"
def TX8 : u_T := fun k => match k with
  | 0 => ("StraitFleet", "books", "LStraitFleet$Books;", true)
  | 1 => ("StraitFleet", "firstImage", "LStraitFleet$Books;", true)
  | 2 => ("StraitFleet", "secondImage", "LStraitFleet$Books;", true)
  | 3 => ("StraitFleet", "imagesKept", "I", false)
  | 4 => ("StraitFleet", "pad", "LStraitFleet$Pad;", true)
  | 5 => ("StraitFleet", "season", "LStraitFleet$Season;", true)
  | _ => ("StraitFleet", "fleet", "LStraitFleet$Fleet;", true)
def tyX8 : Nat → FieldType := fun k => match k with
  | 0 => .object "StraitFleet$Books"
  | 1 => .object "StraitFleet$Books"
  | 2 => .object "StraitFleet$Books"
  | 3 => .int
  | 4 => .object "StraitFleet$Pad"
  | 5 => .object "StraitFleet$Season"
  | _ => .object "StraitFleet$Fleet"
abbrev wsX80 : List Cond := u_ws RX8 TX8 7
theorem nmX8 : ∀ a, a < 7 → ∀ b, b < 7 → a ≠ b → (TX8 a).2.1 ≠ (TX8 b).2.1 := by decide +kernel
theorem tyX8_ok : ∀ k, k < 7 → parseFieldDescriptor (TX8 k).2.2.1 = some (tyX8 k) := by decide +kernel
abbrev cX8_init : ByteArray := prog_1_method_1_code
def yX8_init : MethodName := ⟨RX8, "<init>", "()V"⟩
abbrev cX8_ship : ByteArray := prog_1_method_2_code
def yX8_ship : MethodName := ⟨RX8, "ship", "(IIII)I"⟩
abbrev cX8_scrap : ByteArray := prog_1_method_3_code
def yX8_scrap : MethodName := ⟨RX8, "scrap", "(I)I"⟩
abbrev cX8_set : ByteArray := prog_1_method_4_code
def yX8_set : MethodName := ⟨RX8, "set", "(II)I"⟩
abbrev cX8_say : ByteArray := prog_1_method_5_code
def yX8_say : MethodName := ⟨RX8, "say", "(I)I"⟩
abbrev cX8_wipe : ByteArray := prog_1_method_6_code
def yX8_wipe : MethodName := ⟨RX8, "wipe", "()I"⟩
abbrev cX8_fault : ByteArray := prog_1_method_7_code
def yX8_fault : MethodName := ⟨RX8, "fault", "(I)I"⟩
abbrev cX8_tide : ByteArray := prog_1_method_8_code
def yX8_tide : MethodName := ⟨RX8, "tide", "()I"⟩
abbrev cX8_judge : ByteArray := prog_1_method_9_code
def yX8_judge : MethodName := ⟨RX8, "judge", "(I)I"⟩
abbrev cX8_state : ByteArray := prog_1_method_10_code
def yX8_state : MethodName := ⟨RX8, "state", "(II)I"⟩
abbrev cX8_behind : ByteArray := prog_1_method_11_code
def yX8_behind : MethodName := ⟨RX8, "behind", "(II)I"⟩
abbrev cX8_done : ByteArray := prog_1_method_12_code
def yX8_done : MethodName := ⟨RX8, "done", "()I"⟩
abbrev cX8_sum : ByteArray := prog_1_method_13_code
def yX8_sum : MethodName := ⟨RX8, "sum", "(I)I"⟩
abbrev cX8_seasonCanBe : ByteArray := prog_1_method_14_code
def yX8_seasonCanBe : MethodName := ⟨RX8, "seasonCanBe", "()Z"⟩
abbrev cX8_mean : ByteArray := prog_1_method_15_code
def yX8_mean : MethodName := ⟨RX8, "mean", "(III)I"⟩
abbrev cX8_worst : ByteArray := prog_1_method_16_code
def yX8_worst : MethodName := ⟨RX8, "worst", "(III)I"⟩
abbrev cX8_choice : ByteArray := prog_1_method_17_code
def yX8_choice : MethodName := ⟨RX8, "choice", "(II)I"⟩
abbrev cX8_held : ByteArray := prog_1_method_18_code
def yX8_held : MethodName := ⟨RX8, "held", "(III)I"⟩
abbrev cX8_bound : ByteArray := prog_1_method_19_code
def yX8_bound : MethodName := ⟨RX8, "bound", "(III)I"⟩
abbrev cX8_line : ByteArray := prog_1_method_20_code
def yX8_line : MethodName := ⟨RX8, "line", "(III)I"⟩
abbrev cX8_convoy : ByteArray := prog_1_method_21_code
def yX8_convoy : MethodName := ⟨RX8, "convoy", "(II)I"⟩
abbrev cX8_captain : ByteArray := prog_1_method_22_code
def yX8_captain : MethodName := ⟨RX8, "captain", "(II)I"⟩
abbrev cX8_persuaded : ByteArray := prog_1_method_23_code
def yX8_persuaded : MethodName := ⟨RX8, "persuaded", "(II)I"⟩
abbrev cX8_offer : ByteArray := prog_1_method_24_code
def yX8_offer : MethodName := ⟨RX8, "offer", "(III)I"⟩
abbrev cX8_noOffers : ByteArray := prog_1_method_25_code
def yX8_noOffers : MethodName := ⟨RX8, "noOffers", "()I"⟩
abbrev cX8_insured : ByteArray := prog_1_method_26_code
def yX8_insured : MethodName := ⟨RX8, "insured", "(III)I"⟩
abbrev cX8_aboard : ByteArray := prog_1_method_27_code
def yX8_aboard : MethodName := ⟨RX8, "aboard", "(II)I"⟩
abbrev cX8_ashore : ByteArray := prog_1_method_28_code
def yX8_ashore : MethodName := ⟨RX8, "ashore", "(I)I"⟩
abbrev cX8_lot : ByteArray := prog_1_method_29_code
def yX8_lot : MethodName := ⟨RX8, "lot", "(III)J"⟩
abbrev cX8_often : ByteArray := prog_1_method_30_code
def yX8_often : MethodName := ⟨RX8, "often", "(IIIII)J"⟩
abbrev cX8_roll : ByteArray := prog_1_method_31_code
def yX8_roll : MethodName := ⟨RX8, "roll", "(II)I"⟩
abbrev cX8_forget : ByteArray := prog_1_method_32_code
def yX8_forget : MethodName := ⟨RX8, "forget", "()I"⟩
abbrev cX8_twice : ByteArray := prog_1_method_33_code
def yX8_twice : MethodName := ⟨RX8, "twice", "(I)I"⟩
abbrev cX8_burnt : ByteArray := prog_1_method_34_code
def yX8_burnt : MethodName := ⟨RX8, "burnt", "()J"⟩
abbrev cX8_years : ByteArray := prog_1_method_35_code
def yX8_years : MethodName := ⟨RX8, "years", "(IIII)I"⟩
abbrev cX8_image : ByteArray := prog_1_method_36_code
def yX8_image : MethodName := ⟨RX8, "image", "(I)I"⟩
abbrev cX8_restore : ByteArray := prog_1_method_37_code
def yX8_restore : MethodName := ⟨RX8, "restore", "(I)I"⟩
abbrev cX8_told : ByteArray := prog_1_method_38_code
def yX8_told : MethodName := ⟨RX8, "told", "(I)I"⟩
abbrev cX8_imageBooks : ByteArray := prog_1_method_39_code
def yX8_imageBooks : MethodName := ⟨RX8, "imageBooks", "(I)LStraitFleet$Books;"⟩
abbrev cX8_refusalOf : ByteArray := prog_1_method_40_code
def yX8_refusalOf : MethodName := ⟨RX8, "refusalOf", "(II)I"⟩
abbrev cX8_within : ByteArray := prog_1_method_41_code
def yX8_within : MethodName := ⟨RX8, "within", "(III)Z"⟩
abbrev cX8_isHour : ByteArray := prog_1_method_42_code
def yX8_isHour : MethodName := ⟨RX8, "isHour", "(I)Z"⟩
abbrev cX8_drawAfter : ByteArray := prog_1_method_43_code
def yX8_drawAfter : MethodName := ⟨RX8, "drawAfter", "(I)I"⟩
abbrev cX8_ways : ByteArray := prog_1_method_44_code
def yX8_ways : MethodName := ⟨RX8, "ways", "(II)J"⟩
abbrev cX8_power : ByteArray := prog_1_method_45_code
def yX8_power : MethodName := ⟨RX8, "power", "(II)J"⟩
abbrev cX8_partOf : ByteArray := prog_1_method_46_code
def yX8_partOf : MethodName := ⟨RX8, "partOf", "(JJI)J"⟩
abbrev cX8_commonDivisor : ByteArray := prog_1_method_47_code
def yX8_commonDivisor : MethodName := ⟨RX8, "commonDivisor", "(JJ)J"⟩
def RX9 : String := "StraitFleetModel"
def TX9 : u_T := fun k => match k with
  | 0 => ("StraitFleetModel", "ships", "I", false)
  | 1 => ("StraitFleetModel", "men", "[I", true)
  | 2 => ("StraitFleetModel", "straw", "[I", true)
  | 3 => ("StraitFleetModel", "cargo", "[I", true)
  | 4 => ("StraitFleetModel", "where", "[I", true)
  | 5 => ("StraitFleetModel", "teeth", "I", false)
  | 6 => ("StraitFleetModel", "life", "I", false)
  | 7 => ("StraitFleetModel", "pay", "I", false)
  | 8 => ("StraitFleetModel", "days", "I", false)
  | 9 => ("StraitFleetModel", "wait", "I", false)
  | 10 => ("StraitFleetModel", "hull", "I", false)
  | 11 => ("StraitFleetModel", "head", "I", false)
  | 12 => ("StraitFleetModel", "x", "I", false)
  | 13 => ("StraitFleetModel", "tide", "[I", true)
  | 14 => ("StraitFleetModel", "digits", "I", false)
  | 15 => ("StraitFleetModel", "lostMen", "I", false)
  | 16 => ("StraitFleetModel", "lostCargo", "I", false)
  | 17 => ("StraitFleetModel", "paid", "I", false)
  | 18 => ("StraitFleetModel", "offers", "I", false)
  | 19 => ("StraitFleetModel", "premium", "[I", true)
  | 20 => ("StraitFleetModel", "pays", "[I", true)
  | 21 => ("StraitFleetModel", "names", "I", false)
  | 22 => ("StraitFleetModel", "drawn", "[I", true)
  | 23 => ("StraitFleetModel", "rollNames", "[I", true)
  | 24 => ("StraitFleetModel", "rollMany", "[I", true)
  | 25 => ("StraitFleetModel", "rolls", "I", false)
  | 26 => ("StraitFleetModel", "pad", "[I", true)
  | 27 => ("StraitFleetModel", "padMany", "I", false)
  | 28 => ("StraitFleetModel", "had", "[I", true)
  | 29 => ("StraitFleetModel", "badPart", "I", false)
  | 30 => ("StraitFleetModel", "badWhy", "I", false)
  | 31 => ("StraitFleetModel", "parts", "I", false)
  | 32 => ("StraitFleetModel", "fleetMean", "[I", true)
  | 33 => ("StraitFleetModel", "fleetWorst", "[I", true)
  | 34 => ("StraitFleetModel", "choices", "I", false)
  | 35 => ("StraitFleetModel", "onLine", "[I", true)
  | 36 => ("StraitFleetModel", "kept", "[I", true)
  | 37 => ("StraitFleetModel", "isKept", "[Z", true)
  | 38 => ("StraitFleetModel", "keptAt", "I", false)
  | _ => ("StraitFleetModel", "isWriting", "Z", false)
def tyX9 : Nat → FieldType := fun k => match k with
  | 0 => .int
  | 1 => .array .int
  | 2 => .array .int
  | 3 => .array .int
  | 4 => .array .int
  | 5 => .int
  | 6 => .int
  | 7 => .int
  | 8 => .int
  | 9 => .int
  | 10 => .int
  | 11 => .int
  | 12 => .int
  | 13 => .array .int
  | 14 => .int
  | 15 => .int
  | 16 => .int
  | 17 => .int
  | 18 => .int
  | 19 => .array .int
  | 20 => .array .int
  | 21 => .int
  | 22 => .array .int
  | 23 => .array .int
  | 24 => .array .int
  | 25 => .int
  | 26 => .array .int
  | 27 => .int
  | 28 => .array .int
  | 29 => .int
  | 30 => .int
  | 31 => .int
  | 32 => .array .int
  | 33 => .array .int
  | 34 => .int
  | 35 => .array .int
  | 36 => .array .int
  | 37 => .array .boolean
  | 38 => .int
  | _ => .boolean
abbrev wsX90 : List Cond := u_ws RX9 TX9 40
theorem nmX9 : ∀ a, a < 40 → ∀ b, b < 40 → a ≠ b → (TX9 a).2.1 ≠ (TX9 b).2.1 := by decide +kernel
theorem tyX9_ok : ∀ k, k < 40 → parseFieldDescriptor (TX9 k).2.2.1 = some (tyX9 k) := by decide +kernel
abbrev cX9_init : ByteArray := prog_11_method_1_code
def yX9_init : MethodName := ⟨RX9, "<init>", "()V"⟩
abbrev cX9_in : ByteArray := prog_11_method_3_code
def yX9_in : MethodName := ⟨RX9, "in", "(JJJ)Z"⟩
abbrev cX9_ones : ByteArray := prog_11_method_4_code
def yX9_ones : MethodName := ⟨RX9, "ones", "(I)I"⟩
abbrev cX9_isNumber : ByteArray := prog_11_method_5_code
def yX9_isNumber : MethodName := ⟨RX9, "isNumber", "(I)Z"⟩
abbrev cX9_isShip : ByteArray := prog_11_method_6_code
def yX9_isShip : MethodName := ⟨RX9, "isShip", "(I)Z"⟩
abbrev cX9_isHour : ByteArray := prog_11_method_7_code
def yX9_isHour : MethodName := ⟨RX9, "isHour", "(I)Z"⟩
abbrev cX9_isSide : ByteArray := prog_11_method_8_code
def yX9_isSide : MethodName := ⟨RX9, "isSide", "(I)Z"⟩
abbrev cX9_ship : ByteArray := prog_11_method_9_code
def yX9_ship : MethodName := ⟨RX9, "ship", "(IIII)I"⟩
abbrev cX9_scrap : ByteArray := prog_11_method_10_code
def yX9_scrap : MethodName := ⟨RX9, "scrap", "(I)I"⟩
abbrev cX9_greatest : ByteArray := prog_11_method_11_code
def yX9_greatest : MethodName := ⟨RX9, "greatest", "(I)I"⟩
abbrev cX9_toldSet : ByteArray := prog_11_method_12_code
def yX9_toldSet : MethodName := ⟨RX9, "toldSet", "(I)I"⟩
abbrev cX9_set : ByteArray := prog_11_method_13_code
def yX9_set : MethodName := ⟨RX9, "set", "(II)I"⟩
abbrev cX9_say : ByteArray := prog_11_method_14_code
def yX9_say : MethodName := ⟨RX9, "say", "(I)I"⟩
abbrev cX9_wipe : ByteArray := prog_11_method_15_code
def yX9_wipe : MethodName := ⟨RX9, "wipe", "()I"⟩
abbrev cX9_faultOfTide : ByteArray := prog_11_method_16_code
def yX9_faultOfTide : MethodName := ⟨RX9, "faultOfTide", "()I"⟩
abbrev cX9_faultOfSeason : ByteArray := prog_11_method_17_code
def yX9_faultOfSeason : MethodName := ⟨RX9, "faultOfSeason", "()I"⟩
abbrev cX9_fault : ByteArray := prog_11_method_18_code
def yX9_fault : MethodName := ⟨RX9, "fault", "(I)I"⟩
abbrev cX9_tide : ByteArray := prog_11_method_19_code
def yX9_tide : MethodName := ⟨RX9, "tide", "()I"⟩
abbrev cX9_tenths : ByteArray := prog_11_method_20_code
def yX9_tenths : MethodName := ⟨RX9, "tenths", "(I)I"⟩
abbrev cX9_lostByTeeth : ByteArray := prog_11_method_21_code
def yX9_lostByTeeth : MethodName := ⟨RX9, "lostByTeeth", "(I)I"⟩
abbrev cX9_goTeeth : ByteArray := prog_11_method_22_code
def yX9_goTeeth : MethodName := ⟨RX9, "goTeeth", "(I)V"⟩
abbrev cX9_goWhirl : ByteArray := prog_11_method_23_code
def yX9_goWhirl : MethodName := ⟨RX9, "goWhirl", "(II)V"⟩
abbrev cX9_goCape : ByteArray := prog_11_method_24_code
def yX9_goCape : MethodName := ⟨RX9, "goCape", "(I)V"⟩
abbrev cX9_keepNow : ByteArray := prog_11_method_25_code
def yX9_keepNow : MethodName := ⟨RX9, "keepNow", "()V"⟩
abbrev cX9_putBack : ByteArray := prog_11_method_26_code
def yX9_putBack : MethodName := ⟨RX9, "putBack", "()V"⟩
abbrev cX9_order : ByteArray := prog_11_method_27_code
def yX9_order : MethodName := ⟨RX9, "order", "(III)V"⟩
abbrev cX9_goSeason : ByteArray := prog_11_method_28_code
def yX9_goSeason : MethodName := ⟨RX9, "goSeason", "()V"⟩
abbrev cX9_judge : ByteArray := prog_11_method_29_code
def yX9_judge : MethodName := ⟨RX9, "judge", "(I)I"⟩
abbrev cX9_stateOf : ByteArray := prog_11_method_30_code
def yX9_stateOf : MethodName := ⟨RX9, "stateOf", "(II)I"⟩
abbrev cX9_state : ByteArray := prog_11_method_31_code
def yX9_state : MethodName := ⟨RX9, "state", "(II)I"⟩
abbrev cX9_behind : ByteArray := prog_11_method_32_code
def yX9_behind : MethodName := ⟨RX9, "behind", "(II)I"⟩
abbrev cX9_done : ByteArray := prog_11_method_33_code
def yX9_done : MethodName := ⟨RX9, "done", "()I"⟩
abbrev cX9_sum : ByteArray := prog_11_method_34_code
def yX9_sum : MethodName := ⟨RX9, "sum", "(I)I"⟩
abbrev cX9_allOf : ByteArray := prog_11_method_35_code
def yX9_allOf : MethodName := ⟨RX9, "allOf", "(I)I"⟩
abbrev cX9_teethTake : ByteArray := prog_11_method_36_code
def yX9_teethTake : MethodName := ⟨RX9, "teethTake", "(I)I"⟩
abbrev cX9_meanOf : ByteArray := prog_11_method_37_code
def yX9_meanOf : MethodName := ⟨RX9, "meanOf", "(III)I"⟩
abbrev cX9_worstOf : ByteArray := prog_11_method_38_code
def yX9_worstOf : MethodName := ⟨RX9, "worstOf", "(III)I"⟩
abbrev cX9_choiceOf : ByteArray := prog_11_method_39_code
def yX9_choiceOf : MethodName := ⟨RX9, "choiceOf", "(II)I"⟩
abbrev cX9_mean : ByteArray := prog_11_method_40_code
def yX9_mean : MethodName := ⟨RX9, "mean", "(III)I"⟩
abbrev cX9_worst : ByteArray := prog_11_method_41_code
def yX9_worst : MethodName := ⟨RX9, "worst", "(III)I"⟩
abbrev cX9_choice : ByteArray := prog_11_method_42_code
def yX9_choice : MethodName := ⟨RX9, "choice", "(II)I"⟩
abbrev cX9_held : ByteArray := prog_11_method_43_code
def yX9_held : MethodName := ⟨RX9, "held", "(III)I"⟩
abbrev cX9_isInHarbour : ByteArray := prog_11_method_44_code
def yX9_isInHarbour : MethodName := ⟨RX9, "isInHarbour", "(I)Z"⟩
abbrev cX9_layFleet : ByteArray := prog_11_method_45_code
def yX9_layFleet : MethodName := ⟨RX9, "layFleet", "(I)V"⟩
abbrev cX9_behindIt : ByteArray := prog_11_method_46_code
def yX9_behindIt : MethodName := ⟨RX9, "behindIt", "(I)I"⟩
abbrev cX9_bound : ByteArray := prog_11_method_47_code
def yX9_bound : MethodName := ⟨RX9, "bound", "(III)I"⟩
abbrev cX9_isOnLine : ByteArray := prog_11_method_48_code
def yX9_isOnLine : MethodName := ⟨RX9, "isOnLine", "(I)Z"⟩
abbrev cX9_line : ByteArray := prog_11_method_49_code
def yX9_line : MethodName := ⟨RX9, "line", "(III)I"⟩
abbrev cX9_lessThan : ByteArray := prog_11_method_50_code
def yX9_lessThan : MethodName := ⟨RX9, "lessThan", "(I)I"⟩
abbrev cX9_convoy : ByteArray := prog_11_method_51_code
def yX9_convoy : MethodName := ⟨RX9, "convoy", "(II)I"⟩
abbrev cX9_gets : ByteArray := prog_11_method_52_code
def yX9_gets : MethodName := ⟨RX9, "gets", "(IIII)I"⟩
abbrev cX9_captainBy : ByteArray := prog_11_method_53_code
def yX9_captainBy : MethodName := ⟨RX9, "captainBy", "(III)I"⟩
abbrev cX9_captain : ByteArray := prog_11_method_54_code
def yX9_captain : MethodName := ⟨RX9, "captain", "(II)I"⟩
abbrev cX9_persuaded : ByteArray := prog_11_method_55_code
def yX9_persuaded : MethodName := ⟨RX9, "persuaded", "(II)I"⟩
abbrev cX9_offer : ByteArray := prog_11_method_56_code
def yX9_offer : MethodName := ⟨RX9, "offer", "(III)I"⟩
abbrev cX9_noOffers : ByteArray := prog_11_method_57_code
def yX9_noOffers : MethodName := ⟨RX9, "noOffers", "()I"⟩
abbrev cX9_premiums : ByteArray := prog_11_method_58_code
def yX9_premiums : MethodName := ⟨RX9, "premiums", "(I)I"⟩
abbrev cX9_got : ByteArray := prog_11_method_59_code
def yX9_got : MethodName := ⟨RX9, "got", "(I)I"⟩
abbrev cX9_insured : ByteArray := prog_11_method_60_code
def yX9_insured : MethodName := ⟨RX9, "insured", "(III)I"⟩
abbrev cX9_isAboard : ByteArray := prog_11_method_61_code
def yX9_isAboard : MethodName := ⟨RX9, "isAboard", "(I)Z"⟩
abbrev cX9_aboard : ByteArray := prog_11_method_62_code
def yX9_aboard : MethodName := ⟨RX9, "aboard", "(II)I"⟩
abbrev cX9_ashore : ByteArray := prog_11_method_63_code
def yX9_ashore : MethodName := ⟨RX9, "ashore", "(I)I"⟩
abbrev cX9_lowest : ByteArray := prog_11_method_64_code
def yX9_lowest : MethodName := ⟨RX9, "lowest", "(JJI)J"⟩
abbrev cX9_lot : ByteArray := prog_11_method_65_code
def yX9_lot : MethodName := ⟨RX9, "lot", "(III)J"⟩
abbrev cX9_choose : ByteArray := prog_11_method_66_code
def yX9_choose : MethodName := ⟨RX9, "choose", "(II)J"⟩
abbrev cX9_power : ByteArray := prog_11_method_67_code
def yX9_power : MethodName := ⟨RX9, "power", "(II)J"⟩
abbrev cX9_often : ByteArray := prog_11_method_68_code
def yX9_often : MethodName := ⟨RX9, "often", "(IIIII)J"⟩
abbrev cX9_roll : ByteArray := prog_11_method_69_code
def yX9_roll : MethodName := ⟨RX9, "roll", "(II)I"⟩
abbrev cX9_forget : ByteArray := prog_11_method_70_code
def yX9_forget : MethodName := ⟨RX9, "forget", "()I"⟩
abbrev cX9_twice : ByteArray := prog_11_method_71_code
def yX9_twice : MethodName := ⟨RX9, "twice", "(I)I"⟩
abbrev cX9_burnt : ByteArray := prog_11_method_72_code
def yX9_burnt : MethodName := ⟨RX9, "burnt", "()J"⟩
abbrev cX9_years : ByteArray := prog_11_method_73_code
def yX9_years : MethodName := ⟨RX9, "years", "(IIII)I"⟩
abbrev cX9_pass : ByteArray := prog_11_method_74_code
def yX9_pass : MethodName := ⟨RX9, "pass", "(I)I"⟩
abbrev cX9_passNumbers : ByteArray := prog_11_method_75_code
def yX9_passNumbers : MethodName := ⟨RX9, "passNumbers", "()V"⟩
abbrev cX9_passAll : ByteArray := prog_11_method_76_code
def yX9_passAll : MethodName := ⟨RX9, "passAll", "()V"⟩
abbrev cX9_image : ByteArray := prog_11_method_77_code
def yX9_image : MethodName := ⟨RX9, "image", "(I)I"⟩
abbrev cX9_restore : ByteArray := prog_11_method_78_code
def yX9_restore : MethodName := ⟨RX9, "restore", "(I)I"⟩
abbrev cX9_toldMany : ByteArray := prog_11_method_79_code
def yX9_toldMany : MethodName := ⟨RX9, "toldMany", "(I)I"⟩
abbrev cX9_told : ByteArray := prog_11_method_80_code
def yX9_told : MethodName := ⟨RX9, "told", "(I)I"⟩
def RJx8e188 : String := "java/lang/Cloneable"
def TJx8e188 : u_T := fun k => match k with
  | _ => ("", "", "", false)
def tyJx8e188 : Nat → FieldType := fun k => match k with
  | _ => .int
abbrev wsJx8e1880 : List Cond := u_ws RJx8e188 TJx8e188 0
theorem nmJx8e188 : ∀ a, a < 0 → ∀ b, b < 0 → a ≠ b → (TJx8e188 a).2.1 ≠ (TJx8e188 b).2.1 := by decide +kernel
theorem tyJx8e188_ok : ∀ k, k < 0 → parseFieldDescriptor (TJx8e188 k).2.2.1 = some (tyJx8e188 k) := by decide +kernel
def RJ6 : String := "java/lang/Integer"
def TJ6 : u_T := fun k => match k with
  | _ => ("", "", "", false)
def tyJ6 : Nat → FieldType := fun k => match k with
  | _ => .int
abbrev wsJ60 : List Cond := u_ws RJ6 TJ6 0
theorem nmJ6 : ∀ a, a < 0 → ∀ b, b < 0 → a ≠ b → (TJ6 a).2.1 ≠ (TJ6 b).2.1 := by decide +kernel
theorem tyJ6_ok : ∀ k, k < 0 → parseFieldDescriptor (TJ6 k).2.2.1 = some (tyJ6 k) := by decide +kernel
abbrev cJ6_bitCount_0f7a4 : ByteArray := prog_13_method_49_code
def yJ6_bitCount_0f7a4 : MethodName := ⟨RJ6, "bitCount", "(I)I"⟩
def RJ9 : String := "java/lang/Math"
def TJ9 : u_T := fun k => match k with
  | _ => ("", "", "", false)
def tyJ9 : Nat → FieldType := fun k => match k with
  | _ => .int
abbrev wsJ90 : List Cond := u_ws RJ9 TJ9 0
theorem nmJ9 : ∀ a, a < 0 → ∀ b, b < 0 → a ≠ b → (TJ9 a).2.1 ≠ (TJ9 b).2.1 := by decide +kernel
theorem tyJ9_ok : ∀ k, k < 0 → parseFieldDescriptor (TJ9 k).2.2.1 = some (tyJ9 k) := by decide +kernel
abbrev cJ9_max_7cf53 : ByteArray := prog_14_method_65_code
def yJ9_max_7cf53 : MethodName := ⟨RJ9, "max", "(II)I"⟩
abbrev cJ9_min_7cf53 : ByteArray := prog_14_method_69_code
def yJ9_min_7cf53 : MethodName := ⟨RJ9, "min", "(II)I"⟩
abbrev cJ9_min_f86c9 : ByteArray := prog_14_method_70_code
def yJ9_min_f86c9 : MethodName := ⟨RJ9, "min", "(JJ)J"⟩
def RJ10 : String := "java/lang/System"
def TJ10 : u_T := fun k => match k with
  | _ => ("", "", "", false)
def tyJ10 : Nat → FieldType := fun k => match k with
  | _ => .int
abbrev wsJ100 : List Cond := u_ws RJ10 TJ10 0
theorem nmJ10 : ∀ a, a < 0 → ∀ b, b < 0 → a ≠ b → (TJ10 a).2.1 ≠ (TJ10 b).2.1 := by decide +kernel
theorem tyJ10_ok : ∀ k, k < 0 → parseFieldDescriptor (TJ10 k).2.2.1 = some (tyJ10 k) := by decide +kernel
def RL : String := "StraitFleetLaw"
abbrev cL_law : ByteArray := code
def yL_law : MethodName := ⟨RL, "law", "([I)Z"⟩
abbrev vwCl : List vw_C := [(RX0, TX0, 4), (RX1, TX1, 2), (RX2, TX2, 6), (RX3, TX3, 3), (RX4, TX4, 2), (RX5, TX5, 3), (RX6, TX6, 9), (RX7, TX7, 3), (RX8, TX8, 7), (RX9, TX9, 40)]
