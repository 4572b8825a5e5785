-- ===== PART A: goes FIRST, ahead of the names: the tables' words, and 'selects' of the private methods out of them =====
/-- a private method of a class that the tables say can be made, by its rows of tables_1 -/
def lw_okq (q : MethodName × Nat) : Prop := (q.1.cls ≠ "java/lang/invoke/MethodHandle" ∧ q.1.cls ≠ "java/lang/invoke/VarHandle") ∧ Cond.instantiable q.1.cls q.2 ∈ tables_1 ∧ Cond.privateMethod q.1 ∈ tables_1 ∧ Cond.instanceMethod q.1 ∈ tables_1
theorem lw_p0 : lw_okq (⟨"CrewPairer", "putLeg", "(IIII)I"⟩, 11) := ⟨⟨by decide +kernel, by decide +kernel⟩, List.mem_of_getElem? (i := 18) (by decide +kernel), List.mem_of_getElem? (i := 359) (by decide +kernel), List.mem_of_getElem? (i := 360) (by decide +kernel)⟩
theorem lw_p1 : lw_okq (⟨"CrewPairer", "kept", "(I)I"⟩, 11) := ⟨⟨by decide +kernel, by decide +kernel⟩, List.mem_of_getElem? (i := 18) (by decide +kernel), List.mem_of_getElem? (i := 374) (by decide +kernel), List.mem_of_getElem? (i := 375) (by decide +kernel)⟩
theorem lw_p2 : lw_okq (⟨"CrewPairer", "putCrew", "(I)I"⟩, 11) := ⟨⟨by decide +kernel, by decide +kernel⟩, List.mem_of_getElem? (i := 18) (by decide +kernel), List.mem_of_getElem? (i := 387) (by decide +kernel), List.mem_of_getElem? (i := 388) (by decide +kernel)⟩
theorem lw_p3 : lw_okq (⟨"CrewPairer", "changeRule", "(II)I"⟩, 11) := ⟨⟨by decide +kernel, by decide +kernel⟩, List.mem_of_getElem? (i := 18) (by decide +kernel), List.mem_of_getElem? (i := 415) (by decide +kernel), List.mem_of_getElem? (i := 416) (by decide +kernel)⟩
theorem lw_p4 : lw_okq (⟨"CrewPairer", "take", "(III)I"⟩, 11) := ⟨⟨by decide +kernel, by decide +kernel⟩, List.mem_of_getElem? (i := 18) (by decide +kernel), List.mem_of_getElem? (i := 431) (by decide +kernel), List.mem_of_getElem? (i := 432) (by decide +kernel)⟩
theorem lw_p5 : lw_okq (⟨"CrewPairer", "reasonAgainst", "(III)I"⟩, 11) := ⟨⟨by decide +kernel, by decide +kernel⟩, List.mem_of_getElem? (i := 18) (by decide +kernel), List.mem_of_getElem? (i := 439) (by decide +kernel), List.mem_of_getElem? (i := 440) (by decide +kernel)⟩
theorem lw_p6 : lw_okq (⟨"CrewPairer", "leave", "(II)I"⟩, 11) := ⟨⟨by decide +kernel, by decide +kernel⟩, List.mem_of_getElem? (i := 18) (by decide +kernel), List.mem_of_getElem? (i := 487) (by decide +kernel), List.mem_of_getElem? (i := 488) (by decide +kernel)⟩
theorem lw_p7 : lw_okq (⟨"CrewPairer", "costOf", "(II)I"⟩, 11) := ⟨⟨by decide +kernel, by decide +kernel⟩, List.mem_of_getElem? (i := 18) (by decide +kernel), List.mem_of_getElem? (i := 566) (by decide +kernel), List.mem_of_getElem? (i := 567) (by decide +kernel)⟩
theorem lw_p8 : lw_okq (⟨"CrewPairer", "shift", "(II)I"⟩, 11) := ⟨⟨by decide +kernel, by decide +kernel⟩, List.mem_of_getElem? (i := 18) (by decide +kernel), List.mem_of_getElem? (i := 596) (by decide +kernel), List.mem_of_getElem? (i := 597) (by decide +kernel)⟩
theorem lw_p9 : lw_okq (⟨"CrewPairer", "strike", "(I)I"⟩, 11) := ⟨⟨by decide +kernel, by decide +kernel⟩, List.mem_of_getElem? (i := 18) (by decide +kernel), List.mem_of_getElem? (i := 604) (by decide +kernel), List.mem_of_getElem? (i := 605) (by decide +kernel)⟩
theorem lw_p10 : lw_okq (⟨"CrewPairer", "changeReserve", "(III)I"⟩, 11) := ⟨⟨by decide +kernel, by decide +kernel⟩, List.mem_of_getElem? (i := 18) (by decide +kernel), List.mem_of_getElem? (i := 612) (by decide +kernel), List.mem_of_getElem? (i := 613) (by decide +kernel)⟩
theorem lw_p11 : lw_okq (⟨"CrewPairer", "reserveFor", "(I)I"⟩, 11) := ⟨⟨by decide +kernel, by decide +kernel⟩, List.mem_of_getElem? (i := 18) (by decide +kernel), List.mem_of_getElem? (i := 628) (by decide +kernel), List.mem_of_getElem? (i := 629) (by decide +kernel)⟩
theorem lw_p12 : lw_okq (⟨"CrewPairer", "pairOpenLegs", "()I"⟩, 11) := ⟨⟨by decide +kernel, by decide +kernel⟩, List.mem_of_getElem? (i := 18) (by decide +kernel), List.mem_of_getElem? (i := 641) (by decide +kernel), List.mem_of_getElem? (i := 642) (by decide +kernel)⟩
theorem lw_p13 : lw_okq (⟨"CrewPairer", "findOffer", "(I)V"⟩, 11) := ⟨⟨by decide +kernel, by decide +kernel⟩, List.mem_of_getElem? (i := 18) (by decide +kernel), List.mem_of_getElem? (i := 645) (by decide +kernel), List.mem_of_getElem? (i := 646) (by decide +kernel)⟩
theorem lw_p14 : lw_okq (⟨"CrewPairer", "repairRows", "()I"⟩, 11) := ⟨⟨by decide +kernel, by decide +kernel⟩, List.mem_of_getElem? (i := 18) (by decide +kernel), List.mem_of_getElem? (i := 666) (by decide +kernel), List.mem_of_getElem? (i := 667) (by decide +kernel)⟩
theorem lw_p15 : lw_okq (⟨"CrewPairer", "clearViolations", "(I)V"⟩, 11) := ⟨⟨by decide +kernel, by decide +kernel⟩, List.mem_of_getElem? (i := 18) (by decide +kernel), List.mem_of_getElem? (i := 670) (by decide +kernel), List.mem_of_getElem? (i := 671) (by decide +kernel)⟩
def lw_privs_1 : List (MethodName × Nat) := [(⟨"CrewPairer", "putLeg", "(IIII)I"⟩, 11), (⟨"CrewPairer", "kept", "(I)I"⟩, 11), (⟨"CrewPairer", "putCrew", "(I)I"⟩, 11), (⟨"CrewPairer", "changeRule", "(II)I"⟩, 11), (⟨"CrewPairer", "take", "(III)I"⟩, 11), (⟨"CrewPairer", "reasonAgainst", "(III)I"⟩, 11), (⟨"CrewPairer", "leave", "(II)I"⟩, 11), (⟨"CrewPairer", "costOf", "(II)I"⟩, 11), (⟨"CrewPairer", "shift", "(II)I"⟩, 11), (⟨"CrewPairer", "strike", "(I)I"⟩, 11), (⟨"CrewPairer", "changeReserve", "(III)I"⟩, 11), (⟨"CrewPairer", "reserveFor", "(I)I"⟩, 11), (⟨"CrewPairer", "pairOpenLegs", "()I"⟩, 11), (⟨"CrewPairer", "findOffer", "(I)V"⟩, 11), (⟨"CrewPairer", "repairRows", "()I"⟩, 11), (⟨"CrewPairer", "clearViolations", "(I)V"⟩, 11)]
theorem lw_r1 : ∀ q ∈ lw_privs_1, lw_okq q := List.forall_mem_cons.mpr ⟨lw_p0, List.forall_mem_cons.mpr ⟨lw_p1, List.forall_mem_cons.mpr ⟨lw_p2, List.forall_mem_cons.mpr ⟨lw_p3, List.forall_mem_cons.mpr ⟨lw_p4, List.forall_mem_cons.mpr ⟨lw_p5, List.forall_mem_cons.mpr ⟨lw_p6, List.forall_mem_cons.mpr ⟨lw_p7, List.forall_mem_cons.mpr ⟨lw_p8, List.forall_mem_cons.mpr ⟨lw_p9, List.forall_mem_cons.mpr ⟨lw_p10, List.forall_mem_cons.mpr ⟨lw_p11, List.forall_mem_cons.mpr ⟨lw_p12, List.forall_mem_cons.mpr ⟨lw_p13, List.forall_mem_cons.mpr ⟨lw_p14, List.forall_mem_cons.mpr ⟨lw_p15, fun _ h => absurd h List.not_mem_nil⟩⟩⟩⟩⟩⟩⟩⟩⟩⟩⟩⟩⟩⟩⟩⟩
theorem lw_p16 : lw_okq (⟨"CrewPairer", "takePairing", "(I)I"⟩, 11) := ⟨⟨by decide +kernel, by decide +kernel⟩, List.mem_of_getElem? (i := 18) (by decide +kernel), List.mem_of_getElem? (i := 728) (by decide +kernel), List.mem_of_getElem? (i := 729) (by decide +kernel)⟩
theorem lw_p17 : lw_okq (⟨"CrewPairer", "runCommand", "(I)I"⟩, 11) := ⟨⟨by decide +kernel, by decide +kernel⟩, List.mem_of_getElem? (i := 18) (by decide +kernel), List.mem_of_getElem? (i := 848) (by decide +kernel), List.mem_of_getElem? (i := 849) (by decide +kernel)⟩
theorem lw_p18 : lw_okq (⟨"CrewPairerModel", "isThere", "(IIII)Z"⟩, 30) := ⟨⟨by decide +kernel, by decide +kernel⟩, List.mem_of_getElem? (i := 868) (by decide +kernel), List.mem_of_getElem? (i := 978) (by decide +kernel), List.mem_of_getElem? (i := 979) (by decide +kernel)⟩
theorem lw_p19 : lw_okq (⟨"CrewPairerModel", "of", "(II)I"⟩, 30) := ⟨⟨by decide +kernel, by decide +kernel⟩, List.mem_of_getElem? (i := 868) (by decide +kernel), List.mem_of_getElem? (i := 982) (by decide +kernel), List.mem_of_getElem? (i := 983) (by decide +kernel)⟩
theorem lw_p20 : lw_okq (⟨"CrewPairerModel", "change", "()V"⟩, 30) := ⟨⟨by decide +kernel, by decide +kernel⟩, List.mem_of_getElem? (i := 868) (by decide +kernel), List.mem_of_getElem? (i := 986) (by decide +kernel), List.mem_of_getElem? (i := 987) (by decide +kernel)⟩
theorem lw_p21 : lw_okq (⟨"CrewPairerModel", "push", "([I)V"⟩, 30) := ⟨⟨by decide +kernel, by decide +kernel⟩, List.mem_of_getElem? (i := 868) (by decide +kernel), List.mem_of_getElem? (i := 990) (by decide +kernel), List.mem_of_getElem? (i := 991) (by decide +kernel)⟩
theorem lw_p22 : lw_okq (⟨"CrewPairerModel", "isLeg", "(I)Z"⟩, 30) := ⟨⟨by decide +kernel, by decide +kernel⟩, List.mem_of_getElem? (i := 868) (by decide +kernel), List.mem_of_getElem? (i := 1013) (by decide +kernel), List.mem_of_getElem? (i := 1014) (by decide +kernel)⟩
theorem lw_p23 : lw_okq (⟨"CrewPairerModel", "flierOf", "(I)I"⟩, 30) := ⟨⟨by decide +kernel, by decide +kernel⟩, List.mem_of_getElem? (i := 868) (by decide +kernel), List.mem_of_getElem? (i := 1017) (by decide +kernel), List.mem_of_getElem? (i := 1018) (by decide +kernel)⟩
theorem lw_p24 : lw_okq (⟨"CrewPairerModel", "placeIn", "(II)I"⟩, 30) := ⟨⟨by decide +kernel, by decide +kernel⟩, List.mem_of_getElem? (i := 868) (by decide +kernel), List.mem_of_getElem? (i := 1021) (by decide +kernel), List.mem_of_getElem? (i := 1022) (by decide +kernel)⟩
theorem lw_p25 : lw_okq (⟨"CrewPairerModel", "ofCrew", "(II)I"⟩, 30) := ⟨⟨by decide +kernel, by decide +kernel⟩, List.mem_of_getElem? (i := 868) (by decide +kernel), List.mem_of_getElem? (i := 1025) (by decide +kernel), List.mem_of_getElem? (i := 1026) (by decide +kernel)⟩
theorem lw_p26 : lw_okq (⟨"CrewPairerModel", "assign", "(IIZ)I"⟩, 30) := ⟨⟨by decide +kernel, by decide +kernel⟩, List.mem_of_getElem? (i := 868) (by decide +kernel), List.mem_of_getElem? (i := 1045) (by decide +kernel), List.mem_of_getElem? (i := 1046) (by decide +kernel)⟩
theorem lw_p27 : lw_okq (⟨"CrewPairerModel", "isCrew", "(I)Z"⟩, 30) := ⟨⟨by decide +kernel, by decide +kernel⟩, List.mem_of_getElem? (i := 868) (by decide +kernel), List.mem_of_getElem? (i := 1049) (by decide +kernel), List.mem_of_getElem? (i := 1050) (by decide +kernel)⟩
theorem lw_p28 : lw_okq (⟨"CrewPairerModel", "hinders", "(IIZ)I"⟩, 30) := ⟨⟨by decide +kernel, by decide +kernel⟩, List.mem_of_getElem? (i := 868) (by decide +kernel), List.mem_of_getElem? (i := 1053) (by decide +kernel), List.mem_of_getElem? (i := 1054) (by decide +kernel)⟩
theorem lw_p29 : lw_okq (⟨"CrewPairerModel", "take", "(I)V"⟩, 30) := ⟨⟨by decide +kernel, by decide +kernel⟩, List.mem_of_getElem? (i := 868) (by decide +kernel), List.mem_of_getElem? (i := 1057) (by decide +kernel), List.mem_of_getElem? (i := 1058) (by decide +kernel)⟩
theorem lw_p30 : lw_okq (⟨"CrewPairerModel", "hinders", "(IZ)I"⟩, 30) := ⟨⟨by decide +kernel, by decide +kernel⟩, List.mem_of_getElem? (i := 868) (by decide +kernel), List.mem_of_getElem? (i := 1061) (by decide +kernel), List.mem_of_getElem? (i := 1062) (by decide +kernel)⟩
theorem lw_p31 : lw_okq (⟨"CrewPairerModel", "legAt", "(I)I"⟩, 30) := ⟨⟨by decide +kernel, by decide +kernel⟩, List.mem_of_getElem? (i := 868) (by decide +kernel), List.mem_of_getElem? (i := 1065) (by decide +kernel), List.mem_of_getElem? (i := 1066) (by decide +kernel)⟩
def lw_privs_2 : List (MethodName × Nat) := [(⟨"CrewPairer", "takePairing", "(I)I"⟩, 11), (⟨"CrewPairer", "runCommand", "(I)I"⟩, 11), (⟨"CrewPairerModel", "isThere", "(IIII)Z"⟩, 30), (⟨"CrewPairerModel", "of", "(II)I"⟩, 30), (⟨"CrewPairerModel", "change", "()V"⟩, 30), (⟨"CrewPairerModel", "push", "([I)V"⟩, 30), (⟨"CrewPairerModel", "isLeg", "(I)Z"⟩, 30), (⟨"CrewPairerModel", "flierOf", "(I)I"⟩, 30), (⟨"CrewPairerModel", "placeIn", "(II)I"⟩, 30), (⟨"CrewPairerModel", "ofCrew", "(II)I"⟩, 30), (⟨"CrewPairerModel", "assign", "(IIZ)I"⟩, 30), (⟨"CrewPairerModel", "isCrew", "(I)Z"⟩, 30), (⟨"CrewPairerModel", "hinders", "(IIZ)I"⟩, 30), (⟨"CrewPairerModel", "take", "(I)V"⟩, 30), (⟨"CrewPairerModel", "hinders", "(IZ)I"⟩, 30), (⟨"CrewPairerModel", "legAt", "(I)I"⟩, 30)]
theorem lw_r2 : ∀ q ∈ lw_privs_2, lw_okq q := List.forall_mem_cons.mpr ⟨lw_p16, List.forall_mem_cons.mpr ⟨lw_p17, List.forall_mem_cons.mpr ⟨lw_p18, List.forall_mem_cons.mpr ⟨lw_p19, List.forall_mem_cons.mpr ⟨lw_p20, List.forall_mem_cons.mpr ⟨lw_p21, List.forall_mem_cons.mpr ⟨lw_p22, List.forall_mem_cons.mpr ⟨lw_p23, List.forall_mem_cons.mpr ⟨lw_p24, List.forall_mem_cons.mpr ⟨lw_p25, List.forall_mem_cons.mpr ⟨lw_p26, List.forall_mem_cons.mpr ⟨lw_p27, List.forall_mem_cons.mpr ⟨lw_p28, List.forall_mem_cons.mpr ⟨lw_p29, List.forall_mem_cons.mpr ⟨lw_p30, List.forall_mem_cons.mpr ⟨lw_p31, fun _ h => absurd h List.not_mem_nil⟩⟩⟩⟩⟩⟩⟩⟩⟩⟩⟩⟩⟩⟩⟩⟩
theorem lw_p32 : lw_okq (⟨"CrewPairerModel", "put", "(IZ)I"⟩, 30) := ⟨⟨by decide +kernel, by decide +kernel⟩, List.mem_of_getElem? (i := 868) (by decide +kernel), List.mem_of_getElem? (i := 1069) (by decide +kernel), List.mem_of_getElem? (i := 1070) (by decide +kernel)⟩
theorem lw_p33 : lw_okq (⟨"CrewPairerModel", "violationAt", "(I)I"⟩, 30) := ⟨⟨by decide +kernel, by decide +kernel⟩, List.mem_of_getElem? (i := 868) (by decide +kernel), List.mem_of_getElem? (i := 1073) (by decide +kernel), List.mem_of_getElem? (i := 1074) (by decide +kernel)⟩
theorem lw_p34 : lw_okq (⟨"CrewPairerModel", "violates", "(II)Z"⟩, 30) := ⟨⟨by decide +kernel, by decide +kernel⟩, List.mem_of_getElem? (i := 868) (by decide +kernel), List.mem_of_getElem? (i := 1077) (by decide +kernel), List.mem_of_getElem? (i := 1078) (by decide +kernel)⟩
theorem lw_p35 : lw_okq (⟨"CrewPairerModel", "gapBefore", "(I)I"⟩, 30) := ⟨⟨by decide +kernel, by decide +kernel⟩, List.mem_of_getElem? (i := 868) (by decide +kernel), List.mem_of_getElem? (i := 1081) (by decide +kernel), List.mem_of_getElem? (i := 1082) (by decide +kernel)⟩
theorem lw_p36 : lw_okq (⟨"CrewPairerModel", "beginsDuty", "(I)Z"⟩, 30) := ⟨⟨by decide +kernel, by decide +kernel⟩, List.mem_of_getElem? (i := 868) (by decide +kernel), List.mem_of_getElem? (i := 1085) (by decide +kernel), List.mem_of_getElem? (i := 1086) (by decide +kernel)⟩
theorem lw_p37 : lw_okq (⟨"CrewPairerModel", "dutyMinutes", "(I)I"⟩, 30) := ⟨⟨by decide +kernel, by decide +kernel⟩, List.mem_of_getElem? (i := 868) (by decide +kernel), List.mem_of_getElem? (i := 1089) (by decide +kernel), List.mem_of_getElem? (i := 1090) (by decide +kernel)⟩
theorem lw_p38 : lw_okq (⟨"CrewPairerModel", "dutyEnd", "(I)I"⟩, 30) := ⟨⟨by decide +kernel, by decide +kernel⟩, List.mem_of_getElem? (i := 868) (by decide +kernel), List.mem_of_getElem? (i := 1093) (by decide +kernel), List.mem_of_getElem? (i := 1094) (by decide +kernel)⟩
theorem lw_p39 : lw_okq (⟨"CrewPairerModel", "flownFrom", "(II)I"⟩, 30) := ⟨⟨by decide +kernel, by decide +kernel⟩, List.mem_of_getElem? (i := 868) (by decide +kernel), List.mem_of_getElem? (i := 1097) (by decide +kernel), List.mem_of_getElem? (i := 1098) (by decide +kernel)⟩
theorem lw_p40 : lw_okq (⟨"CrewPairerModel", "isFlown", "(I)Z"⟩, 30) := ⟨⟨by decide +kernel, by decide +kernel⟩, List.mem_of_getElem? (i := 868) (by decide +kernel), List.mem_of_getElem? (i := 1101) (by decide +kernel), List.mem_of_getElem? (i := 1102) (by decide +kernel)⟩
theorem lw_p41 : lw_okq (⟨"CrewPairerModel", "lengthOf", "(I)I"⟩, 30) := ⟨⟨by decide +kernel, by decide +kernel⟩, List.mem_of_getElem? (i := 868) (by decide +kernel), List.mem_of_getElem? (i := 1105) (by decide +kernel), List.mem_of_getElem? (i := 1106) (by decide +kernel)⟩
theorem lw_p42 : lw_okq (⟨"CrewPairerModel", "flownWithin", "(II)I"⟩, 30) := ⟨⟨by decide +kernel, by decide +kernel⟩, List.mem_of_getElem? (i := 868) (by decide +kernel), List.mem_of_getElem? (i := 1109) (by decide +kernel), List.mem_of_getElem? (i := 1110) (by decide +kernel)⟩
theorem lw_p43 : lw_okq (⟨"CrewPairerModel", "takeOut", "(I)V"⟩, 30) := ⟨⟨by decide +kernel, by decide +kernel⟩, List.mem_of_getElem? (i := 868) (by decide +kernel), List.mem_of_getElem? (i := 1116) (by decide +kernel), List.mem_of_getElem? (i := 1117) (by decide +kernel)⟩
theorem lw_p44 : lw_okq (⟨"CrewPairerModel", "enter", "(IIZ)I"⟩, 30) := ⟨⟨by decide +kernel, by decide +kernel⟩, List.mem_of_getElem? (i := 868) (by decide +kernel), List.mem_of_getElem? (i := 1120) (by decide +kernel), List.mem_of_getElem? (i := 1121) (by decide +kernel)⟩
theorem lw_p45 : lw_okq (⟨"CrewPairerModel", "give", "(I)V"⟩, 30) := ⟨⟨by decide +kernel, by decide +kernel⟩, List.mem_of_getElem? (i := 868) (by decide +kernel), List.mem_of_getElem? (i := 1124) (by decide +kernel), List.mem_of_getElem? (i := 1125) (by decide +kernel)⟩
theorem lw_p46 : lw_okq (⟨"CrewPairerModel", "dutyOf", "(I)I"⟩, 30) := ⟨⟨by decide +kernel, by decide +kernel⟩, List.mem_of_getElem? (i := 868) (by decide +kernel), List.mem_of_getElem? (i := 1152) (by decide +kernel), List.mem_of_getElem? (i := 1153) (by decide +kernel)⟩
theorem lw_p47 : lw_okq (⟨"CrewPairerModel", "violations", "()I"⟩, 30) := ⟨⟨by decide +kernel, by decide +kernel⟩, List.mem_of_getElem? (i := 868) (by decide +kernel), List.mem_of_getElem? (i := 1168) (by decide +kernel), List.mem_of_getElem? (i := 1169) (by decide +kernel)⟩
def lw_privs_3 : List (MethodName × Nat) := [(⟨"CrewPairerModel", "put", "(IZ)I"⟩, 30), (⟨"CrewPairerModel", "violationAt", "(I)I"⟩, 30), (⟨"CrewPairerModel", "violates", "(II)Z"⟩, 30), (⟨"CrewPairerModel", "gapBefore", "(I)I"⟩, 30), (⟨"CrewPairerModel", "beginsDuty", "(I)Z"⟩, 30), (⟨"CrewPairerModel", "dutyMinutes", "(I)I"⟩, 30), (⟨"CrewPairerModel", "dutyEnd", "(I)I"⟩, 30), (⟨"CrewPairerModel", "flownFrom", "(II)I"⟩, 30), (⟨"CrewPairerModel", "isFlown", "(I)Z"⟩, 30), (⟨"CrewPairerModel", "lengthOf", "(I)I"⟩, 30), (⟨"CrewPairerModel", "flownWithin", "(II)I"⟩, 30), (⟨"CrewPairerModel", "takeOut", "(I)V"⟩, 30), (⟨"CrewPairerModel", "enter", "(IIZ)I"⟩, 30), (⟨"CrewPairerModel", "give", "(I)V"⟩, 30), (⟨"CrewPairerModel", "dutyOf", "(I)I"⟩, 30), (⟨"CrewPairerModel", "violations", "()I"⟩, 30)]
theorem lw_r3 : ∀ q ∈ lw_privs_3, lw_okq q := List.forall_mem_cons.mpr ⟨lw_p32, List.forall_mem_cons.mpr ⟨lw_p33, List.forall_mem_cons.mpr ⟨lw_p34, List.forall_mem_cons.mpr ⟨lw_p35, List.forall_mem_cons.mpr ⟨lw_p36, List.forall_mem_cons.mpr ⟨lw_p37, List.forall_mem_cons.mpr ⟨lw_p38, List.forall_mem_cons.mpr ⟨lw_p39, List.forall_mem_cons.mpr ⟨lw_p40, List.forall_mem_cons.mpr ⟨lw_p41, List.forall_mem_cons.mpr ⟨lw_p42, List.forall_mem_cons.mpr ⟨lw_p43, List.forall_mem_cons.mpr ⟨lw_p44, List.forall_mem_cons.mpr ⟨lw_p45, List.forall_mem_cons.mpr ⟨lw_p46, List.forall_mem_cons.mpr ⟨lw_p47, fun _ h => absurd h List.not_mem_nil⟩⟩⟩⟩⟩⟩⟩⟩⟩⟩⟩⟩⟩⟩⟩⟩
theorem lw_p48 : lw_okq (⟨"CrewPairerModel", "minutesOf", "(I)I"⟩, 30) := ⟨⟨by decide +kernel, by decide +kernel⟩, List.mem_of_getElem? (i := 868) (by decide +kernel), List.mem_of_getElem? (i := 1180) (by decide +kernel), List.mem_of_getElem? (i := 1181) (by decide +kernel)⟩
theorem lw_p49 : lw_okq (⟨"CrewPairerModel", "isHome", "()Z"⟩, 30) := ⟨⟨by decide +kernel, by decide +kernel⟩, List.mem_of_getElem? (i := 868) (by decide +kernel), List.mem_of_getElem? (i := 1192) (by decide +kernel), List.mem_of_getElem? (i := 1193) (by decide +kernel)⟩
theorem lw_p50 : lw_okq (⟨"CrewPairerModel", "costOf", "(II)I"⟩, 30) := ⟨⟨by decide +kernel, by decide +kernel⟩, List.mem_of_getElem? (i := 868) (by decide +kernel), List.mem_of_getElem? (i := 1204) (by decide +kernel), List.mem_of_getElem? (i := 1205) (by decide +kernel)⟩
theorem lw_p51 : lw_okq (⟨"CrewPairerModel", "findOpen", "()V"⟩, 30) := ⟨⟨by decide +kernel, by decide +kernel⟩, List.mem_of_getElem? (i := 868) (by decide +kernel), List.mem_of_getElem? (i := 1212) (by decide +kernel), List.mem_of_getElem? (i := 1213) (by decide +kernel)⟩
theorem lw_p52 : lw_okq (⟨"CrewPairerModel", "isOpen", "(I)Z"⟩, 30) := ⟨⟨by decide +kernel, by decide +kernel⟩, List.mem_of_getElem? (i := 868) (by decide +kernel), List.mem_of_getElem? (i := 1216) (by decide +kernel), List.mem_of_getElem? (i := 1217) (by decide +kernel)⟩
theorem lw_p53 : lw_okq (⟨"CrewPairerModel", "reorder", "(I)V"⟩, 30) := ⟨⟨by decide +kernel, by decide +kernel⟩, List.mem_of_getElem? (i := 868) (by decide +kernel), List.mem_of_getElem? (i := 1228) (by decide +kernel), List.mem_of_getElem? (i := 1229) (by decide +kernel)⟩
theorem lw_p54 : lw_okq (⟨"CrewPairerModel", "isReserve", "(I)Z"⟩, 30) := ⟨⟨by decide +kernel, by decide +kernel⟩, List.mem_of_getElem? (i := 868) (by decide +kernel), List.mem_of_getElem? (i := 1240) (by decide +kernel), List.mem_of_getElem? (i := 1241) (by decide +kernel)⟩
theorem lw_p55 : lw_okq (⟨"CrewPairerModel", "calledFor", "(I)I"⟩, 30) := ⟨⟨by decide +kernel, by decide +kernel⟩, List.mem_of_getElem? (i := 868) (by decide +kernel), List.mem_of_getElem? (i := 1252) (by decide +kernel), List.mem_of_getElem? (i := 1253) (by decide +kernel)⟩
theorem lw_p56 : lw_okq (⟨"CrewPairerModel", "findOffer", "(I)V"⟩, 30) := ⟨⟨by decide +kernel, by decide +kernel⟩, List.mem_of_getElem? (i := 868) (by decide +kernel), List.mem_of_getElem? (i := 1260) (by decide +kernel), List.mem_of_getElem? (i := 1261) (by decide +kernel)⟩
theorem lw_p57 : lw_okq (⟨"CrewPairerModel", "consider", "(III)V"⟩, 30) := ⟨⟨by decide +kernel, by decide +kernel⟩, List.mem_of_getElem? (i := 868) (by decide +kernel), List.mem_of_getElem? (i := 1264) (by decide +kernel), List.mem_of_getElem? (i := 1265) (by decide +kernel)⟩
theorem lw_p58 : lw_okq (⟨"CrewPairerModel", "isWay", "(III)Z"⟩, 30) := ⟨⟨by decide +kernel, by decide +kernel⟩, List.mem_of_getElem? (i := 868) (by decide +kernel), List.mem_of_getElem? (i := 1268) (by decide +kernel), List.mem_of_getElem? (i := 1269) (by decide +kernel)⟩
theorem lw_p59 : lw_okq (⟨"CrewPairerModel", "callFor", "(II)V"⟩, 30) := ⟨⟨by decide +kernel, by decide +kernel⟩, List.mem_of_getElem? (i := 868) (by decide +kernel), List.mem_of_getElem? (i := 1280) (by decide +kernel), List.mem_of_getElem? (i := 1281) (by decide +kernel)⟩
theorem lw_p60 : lw_okq (⟨"CrewPairerModel", "findBest", "(I)V"⟩, 30) := ⟨⟨by decide +kernel, by decide +kernel⟩, List.mem_of_getElem? (i := 868) (by decide +kernel), List.mem_of_getElem? (i := 1292) (by decide +kernel), List.mem_of_getElem? (i := 1293) (by decide +kernel)⟩
theorem lw_p61 : lw_okq (⟨"CrewPairerModel", "search", "(III)V"⟩, 30) := ⟨⟨by decide +kernel, by decide +kernel⟩, List.mem_of_getElem? (i := 868) (by decide +kernel), List.mem_of_getElem? (i := 1296) (by decide +kernel), List.mem_of_getElem? (i := 1297) (by decide +kernel)⟩
theorem lw_p62 : lw_okq (⟨"CrewPairerModel", "writeItem", "(I)V"⟩, 30) := ⟨⟨by decide +kernel, by decide +kernel⟩, List.mem_of_getElem? (i := 868) (by decide +kernel), List.mem_of_getElem? (i := 1312) (by decide +kernel), List.mem_of_getElem? (i := 1313) (by decide +kernel)⟩
theorem lw_p63 : lw_okq (⟨"CrewPairerModel", "write", "(I)V"⟩, 30) := ⟨⟨by decide +kernel, by decide +kernel⟩, List.mem_of_getElem? (i := 868) (by decide +kernel), List.mem_of_getElem? (i := 1316) (by decide +kernel), List.mem_of_getElem? (i := 1317) (by decide +kernel)⟩
def lw_privs_4 : List (MethodName × Nat) := [(⟨"CrewPairerModel", "minutesOf", "(I)I"⟩, 30), (⟨"CrewPairerModel", "isHome", "()Z"⟩, 30), (⟨"CrewPairerModel", "costOf", "(II)I"⟩, 30), (⟨"CrewPairerModel", "findOpen", "()V"⟩, 30), (⟨"CrewPairerModel", "isOpen", "(I)Z"⟩, 30), (⟨"CrewPairerModel", "reorder", "(I)V"⟩, 30), (⟨"CrewPairerModel", "isReserve", "(I)Z"⟩, 30), (⟨"CrewPairerModel", "calledFor", "(I)I"⟩, 30), (⟨"CrewPairerModel", "findOffer", "(I)V"⟩, 30), (⟨"CrewPairerModel", "consider", "(III)V"⟩, 30), (⟨"CrewPairerModel", "isWay", "(III)Z"⟩, 30), (⟨"CrewPairerModel", "callFor", "(II)V"⟩, 30), (⟨"CrewPairerModel", "findBest", "(I)V"⟩, 30), (⟨"CrewPairerModel", "search", "(III)V"⟩, 30), (⟨"CrewPairerModel", "writeItem", "(I)V"⟩, 30), (⟨"CrewPairerModel", "write", "(I)V"⟩, 30)]
theorem lw_r4 : ∀ q ∈ lw_privs_4, lw_okq q := List.forall_mem_cons.mpr ⟨lw_p48, List.forall_mem_cons.mpr ⟨lw_p49, List.forall_mem_cons.mpr ⟨lw_p50, List.forall_mem_cons.mpr ⟨lw_p51, List.forall_mem_cons.mpr ⟨lw_p52, List.forall_mem_cons.mpr ⟨lw_p53, List.forall_mem_cons.mpr ⟨lw_p54, List.forall_mem_cons.mpr ⟨lw_p55, List.forall_mem_cons.mpr ⟨lw_p56, List.forall_mem_cons.mpr ⟨lw_p57, List.forall_mem_cons.mpr ⟨lw_p58, List.forall_mem_cons.mpr ⟨lw_p59, List.forall_mem_cons.mpr ⟨lw_p60, List.forall_mem_cons.mpr ⟨lw_p61, List.forall_mem_cons.mpr ⟨lw_p62, List.forall_mem_cons.mpr ⟨lw_p63, fun _ h => absurd h List.not_mem_nil⟩⟩⟩⟩⟩⟩⟩⟩⟩⟩⟩⟩⟩⟩⟩⟩
theorem lw_p64 : lw_okq (⟨"CrewPairerModel", "writeTime", "(I)V"⟩, 30) := ⟨⟨by decide +kernel, by decide +kernel⟩, List.mem_of_getElem? (i := 868) (by decide +kernel), List.mem_of_getElem? (i := 1320) (by decide +kernel), List.mem_of_getElem? (i := 1321) (by decide +kernel)⟩
theorem lw_p65 : lw_okq (⟨"CrewPairerModel", "writeTwo", "(I)V"⟩, 30) := ⟨⟨by decide +kernel, by decide +kernel⟩, List.mem_of_getElem? (i := 868) (by decide +kernel), List.mem_of_getElem? (i := 1324) (by decide +kernel), List.mem_of_getElem? (i := 1325) (by decide +kernel)⟩
theorem lw_p66 : lw_okq (⟨"CrewPairerModel", "command", "(Z)I"⟩, 30) := ⟨⟨by decide +kernel, by decide +kernel⟩, List.mem_of_getElem? (i := 868) (by decide +kernel), List.mem_of_getElem? (i := 1340) (by decide +kernel), List.mem_of_getElem? (i := 1341) (by decide +kernel)⟩
theorem lw_p67 : lw_okq (⟨"CrewPairerModel", "here", "()I"⟩, 30) := ⟨⟨by decide +kernel, by decide +kernel⟩, List.mem_of_getElem? (i := 868) (by decide +kernel), List.mem_of_getElem? (i := 1344) (by decide +kernel), List.mem_of_getElem? (i := 1345) (by decide +kernel)⟩
theorem lw_p68 : lw_okq (⟨"CrewPairerModel", "wordOf", "(I)I"⟩, 30) := ⟨⟨by decide +kernel, by decide +kernel⟩, List.mem_of_getElem? (i := 868) (by decide +kernel), List.mem_of_getElem? (i := 1348) (by decide +kernel), List.mem_of_getElem? (i := 1349) (by decide +kernel)⟩
theorem lw_p69 : lw_okq (⟨"CrewPairerModel", "isWord", "(ILjava/lang/String;)Z"⟩, 30) := ⟨⟨by decide +kernel, by decide +kernel⟩, List.mem_of_getElem? (i := 868) (by decide +kernel), List.mem_of_getElem? (i := 1364) (by decide +kernel), List.mem_of_getElem? (i := 1365) (by decide +kernel)⟩
theorem lw_p70 : lw_okq (⟨"CrewPairerModel", "readNumber", "(I)V"⟩, 30) := ⟨⟨by decide +kernel, by decide +kernel⟩, List.mem_of_getElem? (i := 868) (by decide +kernel), List.mem_of_getElem? (i := 1368) (by decide +kernel), List.mem_of_getElem? (i := 1369) (by decide +kernel)⟩
theorem lw_p71 : lw_okq (⟨"CrewPairerModel", "perform", "(I)I"⟩, 30) := ⟨⟨by decide +kernel, by decide +kernel⟩, List.mem_of_getElem? (i := 868) (by decide +kernel), List.mem_of_getElem? (i := 1372) (by decide +kernel), List.mem_of_getElem? (i := 1373) (by decide +kernel)⟩
def lw_privs_5 : List (MethodName × Nat) := [(⟨"CrewPairerModel", "writeTime", "(I)V"⟩, 30), (⟨"CrewPairerModel", "writeTwo", "(I)V"⟩, 30), (⟨"CrewPairerModel", "command", "(Z)I"⟩, 30), (⟨"CrewPairerModel", "here", "()I"⟩, 30), (⟨"CrewPairerModel", "wordOf", "(I)I"⟩, 30), (⟨"CrewPairerModel", "isWord", "(ILjava/lang/String;)Z"⟩, 30), (⟨"CrewPairerModel", "readNumber", "(I)V"⟩, 30), (⟨"CrewPairerModel", "perform", "(I)I"⟩, 30)]
theorem lw_r5 : ∀ q ∈ lw_privs_5, lw_okq q := List.forall_mem_cons.mpr ⟨lw_p64, List.forall_mem_cons.mpr ⟨lw_p65, List.forall_mem_cons.mpr ⟨lw_p66, List.forall_mem_cons.mpr ⟨lw_p67, List.forall_mem_cons.mpr ⟨lw_p68, List.forall_mem_cons.mpr ⟨lw_p69, List.forall_mem_cons.mpr ⟨lw_p70, List.forall_mem_cons.mpr ⟨lw_p71, fun _ h => absurd h List.not_mem_nil⟩⟩⟩⟩⟩⟩⟩⟩
def lw_privs : List (MethodName × Nat) := lw_privs_1 ++ (lw_privs_2 ++ (lw_privs_3 ++ (lw_privs_4 ++ (lw_privs_5))))
def lw_tbl : List Cond := k2_sels lw_privs ++ tables_1
theorem lw_privs_ok : ∀ q ∈ lw_privs, lw_okq q := by
  show ∀ q ∈ lw_privs_1 ++ (lw_privs_2 ++ (lw_privs_3 ++ (lw_privs_4 ++ (lw_privs_5)))), lw_okq q
  exact List.forall_mem_append.mpr ⟨lw_r1, List.forall_mem_append.mpr ⟨lw_r2, List.forall_mem_append.mpr ⟨lw_r3, List.forall_mem_append.mpr ⟨lw_r4, lw_r5⟩⟩⟩⟩
/-! ===== BEGIN words of one list among another's, by their places ===== -/
theorem goodIn_r {big : List Cond} (ws : List Cond) (ps : List Nat) (hp : ws = ps.filterMap (fun i => big[i]?)) (h : ws.all goodWord = true) : GoodIn big ws := by
  intro w hw
  have h1 := List.all_eq_true.mp h w hw
  rw [hp] at hw
  obtain ⟨i, -, hi⟩ := List.mem_filterMap.mp hw
  have hm : w ∈ big := by first | exact List.mem_of_getElem? hi | exact List.getElem?_mem hi
  exact ⟨hm, good_of_word h1⟩
theorem goodIn_app {big a b : List Cond} (ha : GoodIn big a) (hb : GoodIn big b) : GoodIn big (a ++ b) := fun w h => (List.mem_append.mp h).elim (ha w) (hb w)
theorem goodIn_ca {big a b : List Cond} {c : Cond} (ha : GoodIn big (c :: a)) (hb : GoodIn big b) : GoodIn big (c :: (a ++ b)) := fun w h => (List.mem_cons.mp h).elim (fun e => ha w (List.mem_cons.mpr (Or.inl e))) (fun h => (List.mem_append.mp h).elim (fun h => ha w (List.mem_cons.mpr (Or.inr h))) (hb w))
theorem goodIn_sub {big ws : List Cond} (hm : ∀ w ∈ ws, w ∈ big) (h : ws.all goodWord = true) : GoodIn big ws := fun w hw => ⟨hm w hw, good_of_word (List.all_eq_true.mp h w hw)⟩
/-! ===== END ===== -/


/-! ===== BEGIN printed: names, fields, word lists, decode rows ===== -/
def RX0 : String := "CrewPairer$Commands"
def TX0 : u_T := fun k => match k with
  | 0 => ("CrewPairer$Commands", "text", "[C", true)
  | 1 => ("CrewPairer$Commands", "length", "I", false)
  | 2 => ("CrewPairer$Commands", "position", "I", false)
  | 3 => ("CrewPairer$Commands", "count", "I", false)
  | 4 => ("CrewPairer$Commands", "words", "[I", true)
  | _ => ("CrewPairer$Commands", "numbers", "[I", true)
def tyX0 : Nat → FieldType := fun k => match k with
  | 0 => .array .char
  | 1 => .int
  | 2 => .int
  | 3 => .int
  | 4 => .array .int
  | _ => .array .int
abbrev wsX00 : List Cond := u_ws RX0 TX0 6
theorem nmX0 : ∀ a, a < 6 → ∀ b, b < 6 → a ≠ b → (TX0 a).2.1 ≠ (TX0 b).2.1 := by decide +kernel
theorem tyX0_ok : ∀ k, k < 6 → parseFieldDescriptor (TX0 k).2.2.1 = some (tyX0 k) := by decide +kernel
abbrev cX0_init : ByteArray := prog_2_method_1_code
def yX0_init : MethodName := ⟨RX0, "<init>", "()V"⟩
abbrev cX0_parse : ByteArray := prog_2_method_2_code
def yX0_parse : MethodName := ⟨RX0, "parse", "()I"⟩
abbrev cX0_parseCommand : ByteArray := prog_2_method_3_code
def yX0_parseCommand : MethodName := ⟨RX0, "parseCommand", "(I)Z"⟩
abbrev cX0_hasWord : ByteArray := prog_2_method_4_code
def yX0_hasWord : MethodName := ⟨RX0, "hasWord", "(ILjava/lang/String;)Z"⟩
abbrev cX0_wordOf : ByteArray := prog_2_method_5_code
def yX0_wordOf : MethodName := ⟨RX0, "wordOf", "(I)Ljava/lang/String;"⟩
abbrev cX0_parseNumber : ByteArray := prog_2_method_6_code
def yX0_parseNumber : MethodName := ⟨RX0, "parseNumber", "(I)Z"⟩
def RX1 : String := "CrewPairer$History"
def TX1 : u_T := fun k => match k with
  | 0 => ("CrewPairer$History", "plans", "[LCrewPairer$Plan;", true)
  | 1 => ("CrewPairer$History", "next", "I", false)
  | _ => ("CrewPairer$History", "count", "I", false)
def tyX1 : Nat → FieldType := fun k => match k with
  | 0 => .array (.object "CrewPairer$Plan")
  | 1 => .int
  | _ => .int
abbrev wsX10 : List Cond := u_ws RX1 TX1 3
theorem nmX1 : ∀ a, a < 3 → ∀ b, b < 3 → a ≠ b → (TX1 a).2.1 ≠ (TX1 b).2.1 := by decide +kernel
theorem tyX1_ok : ∀ k, k < 3 → parseFieldDescriptor (TX1 k).2.2.1 = some (tyX1 k) := by decide +kernel
abbrev cX1_init : ByteArray := prog_3_method_1_code
def yX1_init : MethodName := ⟨RX1, "<init>", "()V"⟩
abbrev cX1_remember : ByteArray := prog_3_method_2_code
def yX1_remember : MethodName := ⟨RX1, "remember", "(LCrewPairer$Plan;)V"⟩
abbrev cX1_takeBack : ByteArray := prog_3_method_3_code
def yX1_takeBack : MethodName := ⟨RX1, "takeBack", "(LCrewPairer$Plan;)I"⟩
def RX2 : String := "CrewPairer$Offer"
def TX2 : u_T := fun k => match k with
  | 0 => ("CrewPairer$Offer", "crew", "I", false)
  | 1 => ("CrewPairer$Offer", "other", "I", false)
  | 2 => ("CrewPairer$Offer", "price", "I", false)
  | _ => ("CrewPairer$Offer", "minutes", "I", false)
def tyX2 : Nat → FieldType := fun k => match k with
  | 0 => .int
  | 1 => .int
  | 2 => .int
  | _ => .int
abbrev wsX20 : List Cond := u_ws RX2 TX2 4
theorem nmX2 : ∀ a, a < 4 → ∀ b, b < 4 → a ≠ b → (TX2 a).2.1 ≠ (TX2 b).2.1 := by decide +kernel
theorem tyX2_ok : ∀ k, k < 4 → parseFieldDescriptor (TX2 k).2.2.1 = some (tyX2 k) := by decide +kernel
abbrev cX2_init : ByteArray := prog_4_method_1_code
def yX2_init : MethodName := ⟨RX2, "<init>", "()V"⟩
abbrev cX2_isWorseThan : ByteArray := prog_4_method_2_code
def yX2_isWorseThan : MethodName := ⟨RX2, "isWorseThan", "(II)Z"⟩
abbrev cX2_set : ByteArray := prog_4_method_3_code
def yX2_set : MethodName := ⟨RX2, "set", "(IIII)V"⟩
def RX3 : String := "CrewPairer$Plan"
def TX3 : u_T := fun k => match k with
  | 0 => ("CrewPairer$Plan", "legCount", "I", false)
  | 1 => ("CrewPairer$Plan", "from", "[I", true)
  | 2 => ("CrewPairer$Plan", "to", "[I", true)
  | 3 => ("CrewPairer$Plan", "departure", "[I", true)
  | 4 => ("CrewPairer$Plan", "arrival", "[I", true)
  | 5 => ("CrewPairer$Plan", "cancelled", "[I", true)
  | 6 => ("CrewPairer$Plan", "order", "[I", true)
  | 7 => ("CrewPairer$Plan", "crewCount", "I", false)
  | 8 => ("CrewPairer$Plan", "bases", "[I", true)
  | 9 => ("CrewPairer$Plan", "starts", "[I", true)
  | 10 => ("CrewPairer$Plan", "ends", "[I", true)
  | 11 => ("CrewPairer$Plan", "tasks", "[[I", true)
  | _ => ("CrewPairer$Plan", "rules", "[I", true)
def tyX3 : Nat → FieldType := fun k => match k with
  | 0 => .int
  | 1 => .array .int
  | 2 => .array .int
  | 3 => .array .int
  | 4 => .array .int
  | 5 => .array .int
  | 6 => .array .int
  | 7 => .int
  | 8 => .array .int
  | 9 => .array .int
  | 10 => .array .int
  | 11 => .array (.array .int)
  | _ => .array .int
abbrev wsX30 : List Cond := u_ws RX3 TX3 13
theorem nmX3 : ∀ a, a < 13 → ∀ b, b < 13 → a ≠ b → (TX3 a).2.1 ≠ (TX3 b).2.1 := by decide +kernel
theorem tyX3_ok : ∀ k, k < 13 → parseFieldDescriptor (TX3 k).2.2.1 = some (tyX3 k) := by decide +kernel
abbrev cX3_init : ByteArray := prog_5_method_1_code
def yX3_init : MethodName := ⟨RX3, "<init>", "()V"⟩
abbrev cX3_copyFrom : ByteArray := prog_5_method_2_code
def yX3_copyFrom : MethodName := ⟨RX3, "copyFrom", "(LCrewPairer$Plan;)V"⟩
abbrev cX3_hasLeg : ByteArray := prog_5_method_3_code
def yX3_hasLeg : MethodName := ⟨RX3, "hasLeg", "(I)Z"⟩
abbrev cX3_hasCrew : ByteArray := prog_5_method_4_code
def yX3_hasCrew : MethodName := ⟨RX3, "hasCrew", "(I)Z"⟩
abbrev cX3_hasTwin : ByteArray := prog_5_method_5_code
def yX3_hasTwin : MethodName := ⟨RX3, "hasTwin", "(IIII)Z"⟩
abbrev cX3_sortLegs : ByteArray := prog_5_method_6_code
def yX3_sortLegs : MethodName := ⟨RX3, "sortLegs", "()V"⟩
abbrev cX3_lengthOf : ByteArray := prog_5_method_7_code
def yX3_lengthOf : MethodName := ⟨RX3, "lengthOf", "(I)I"⟩
abbrev cX3_flyerOf : ByteArray := prog_5_method_8_code
def yX3_flyerOf : MethodName := ⟨RX3, "flyerOf", "(I)I"⟩
abbrev cX3_isOpen : ByteArray := prog_5_method_9_code
def yX3_isOpen : MethodName := ⟨RX3, "isOpen", "(I)Z"⟩
abbrev cX3_minutesOf : ByteArray := prog_5_method_10_code
def yX3_minutesOf : MethodName := ⟨RX3, "minutesOf", "(I)I"⟩
abbrev cX3_isReserve : ByteArray := prog_5_method_11_code
def yX3_isReserve : MethodName := ⟨RX3, "isReserve", "(I)Z"⟩
abbrev cX3_isOnCall : ByteArray := prog_5_method_12_code
def yX3_isOnCall : MethodName := ⟨RX3, "isOnCall", "(II)Z"⟩
def RX4 : String := "CrewPairer$Repairs"
def TX4 : u_T := fun k => match k with
  | 0 => ("CrewPairer$Repairs", "count", "I", false)
  | 1 => ("CrewPairer$Repairs", "crews", "[I", true)
  | 2 => ("CrewPairer$Repairs", "legs", "[I", true)
  | 3 => ("CrewPairer$Repairs", "flown", "[Z", true)
  | _ => ("CrewPairer$Repairs", "reserves", "[I", true)
def tyX4 : Nat → FieldType := fun k => match k with
  | 0 => .int
  | 1 => .array .int
  | 2 => .array .int
  | 3 => .array .boolean
  | _ => .array .int
abbrev wsX40 : List Cond := u_ws RX4 TX4 5
theorem nmX4 : ∀ a, a < 5 → ∀ b, b < 5 → a ≠ b → (TX4 a).2.1 ≠ (TX4 b).2.1 := by decide +kernel
theorem tyX4_ok : ∀ k, k < 5 → parseFieldDescriptor (TX4 k).2.2.1 = some (tyX4 k) := by decide +kernel
abbrev cX4_init : ByteArray := prog_6_method_1_code
def yX4_init : MethodName := ⟨RX4, "<init>", "()V"⟩
abbrev cX4_add : ByteArray := prog_6_method_2_code
def yX4_add : MethodName := ⟨RX4, "add", "(IIZ)V"⟩
abbrev cX4_flownEntry : ByteArray := prog_6_method_3_code
def yX4_flownEntry : MethodName := ⟨RX4, "flownEntry", "(I)I"⟩
def RX5 : String := "CrewPairer$Report"
def TX5 : u_T := fun k => match k with
  | 0 => ("CrewPairer$Report", "text", "[C", true)
  | _ => ("CrewPairer$Report", "length", "I", false)
def tyX5 : Nat → FieldType := fun k => match k with
  | 0 => .array .char
  | _ => .int
abbrev wsX50 : List Cond := u_ws RX5 TX5 2
theorem nmX5 : ∀ a, a < 2 → ∀ b, b < 2 → a ≠ b → (TX5 a).2.1 ≠ (TX5 b).2.1 := by decide +kernel
theorem tyX5_ok : ∀ k, k < 2 → parseFieldDescriptor (TX5 k).2.2.1 = some (tyX5 k) := by decide +kernel
abbrev cX5_init : ByteArray := prog_7_method_1_code
def yX5_init : MethodName := ⟨RX5, "<init>", "()V"⟩
abbrev cX5_write : ByteArray := prog_7_method_2_code
def yX5_write : MethodName := ⟨RX5, "write", "(LCrewPairer$Row;LCrewPairer$Plan;)V"⟩
abbrev cX5_putTime : ByteArray := prog_7_method_3_code
def yX5_putTime : MethodName := ⟨RX5, "putTime", "(I)V"⟩
abbrev cX5_putWord : ByteArray := prog_7_method_4_code
def yX5_putWord : MethodName := ⟨RX5, "putWord", "(Ljava/lang/String;)V"⟩
abbrev cX5_putDigit : ByteArray := prog_7_method_5_code
def yX5_putDigit : MethodName := ⟨RX5, "putDigit", "(I)V"⟩
abbrev cX5_put : ByteArray := prog_7_method_6_code
def yX5_put : MethodName := ⟨RX5, "put", "(C)V"⟩
def RX6 : String := "CrewPairer$Row"
def TX6 : u_T := fun k => match k with
  | 0 => ("CrewPairer$Row", "plan", "LCrewPairer$Plan;", true)
  | 1 => ("CrewPairer$Row", "base", "I", false)
  | 2 => ("CrewPairer$Row", "count", "I", false)
  | 3 => ("CrewPairer$Row", "legs", "[I", true)
  | 4 => ("CrewPairer$Row", "flown", "[Z", true)
  | 5 => ("CrewPairer$Row", "gaps", "[I", true)
  | 6 => ("CrewPairer$Row", "duties", "[I", true)
  | 7 => ("CrewPairer$Row", "dutyCount", "I", false)
  | 8 => ("CrewPairer$Row", "firsts", "[I", true)
  | 9 => ("CrewPairer$Row", "lasts", "[I", true)
  | 10 => ("CrewPairer$Row", "flownMinutes", "[I", true)
  | 11 => ("CrewPairer$Row", "found", "I", false)
  | 12 => ("CrewPairer$Row", "kinds", "[I", true)
  | _ => ("CrewPairer$Row", "places", "[I", true)
def tyX6 : Nat → FieldType := fun k => match k with
  | 0 => .object "CrewPairer$Plan"
  | 1 => .int
  | 2 => .int
  | 3 => .array .int
  | 4 => .array .boolean
  | 5 => .array .int
  | 6 => .array .int
  | 7 => .int
  | 8 => .array .int
  | 9 => .array .int
  | 10 => .array .int
  | 11 => .int
  | 12 => .array .int
  | _ => .array .int
abbrev wsX60 : List Cond := u_ws RX6 TX6 14
theorem nmX6 : ∀ a, a < 14 → ∀ b, b < 14 → a ≠ b → (TX6 a).2.1 ≠ (TX6 b).2.1 := by decide +kernel
theorem tyX6_ok : ∀ k, k < 14 → parseFieldDescriptor (TX6 k).2.2.1 = some (tyX6 k) := by decide +kernel
abbrev cX6_init : ByteArray := prog_8_method_1_code
def yX6_init : MethodName := ⟨RX6, "<init>", "(LCrewPairer$Plan;)V"⟩
abbrev cX6_load : ByteArray := prog_8_method_2_code
def yX6_load : MethodName := ⟨RX6, "load", "(I)V"⟩
abbrev cX6_append : ByteArray := prog_8_method_3_code
def yX6_append : MethodName := ⟨RX6, "append", "(IZ)V"⟩
abbrev cX6_removeLast : ByteArray := prog_8_method_4_code
def yX6_removeLast : MethodName := ⟨RX6, "removeLast", "()V"⟩
abbrev cX6_positionOf : ByteArray := prog_8_method_5_code
def yX6_positionOf : MethodName := ⟨RX6, "positionOf", "(I)I"⟩
abbrev cX6_spanOf : ByteArray := prog_8_method_6_code
def yX6_spanOf : MethodName := ⟨RX6, "spanOf", "(I)I"⟩
abbrev cX6_sizeOf : ByteArray := prog_8_method_7_code
def yX6_sizeOf : MethodName := ⟨RX6, "sizeOf", "(I)I"⟩
abbrev cX6_flownWithin : ByteArray := prog_8_method_8_code
def yX6_flownWithin : MethodName := ⟨RX6, "flownWithin", "(II)I"⟩
abbrev cX6_breaks : ByteArray := prog_8_method_9_code
def yX6_breaks : MethodName := ⟨RX6, "breaks", "(II)Z"⟩
abbrev cX6_overfillsWindow : ByteArray := prog_8_method_10_code
def yX6_overfillsWindow : MethodName := ⟨RX6, "overfillsWindow", "(I)Z"⟩
abbrev cX6_findViolations : ByteArray := prog_8_method_11_code
def yX6_findViolations : MethodName := ⟨RX6, "findViolations", "(I)I"⟩
abbrev cX6_lastBreaks : ByteArray := prog_8_method_12_code
def yX6_lastBreaks : MethodName := ⟨RX6, "lastBreaks", "()Z"⟩
abbrev cX6_isHome : ByteArray := prog_8_method_13_code
def yX6_isHome : MethodName := ⟨RX6, "isHome", "()Z"⟩
abbrev cX6_endsAtBase : ByteArray := prog_8_method_14_code
def yX6_endsAtBase : MethodName := ⟨RX6, "endsAtBase", "(I)Z"⟩
abbrev cX6_pairingCount : ByteArray := prog_8_method_15_code
def yX6_pairingCount : MethodName := ⟨RX6, "pairingCount", "()I"⟩
abbrev cX6_nightCount : ByteArray := prog_8_method_16_code
def yX6_nightCount : MethodName := ⟨RX6, "nightCount", "()I"⟩
abbrev cX6_rideMinutes : ByteArray := prog_8_method_17_code
def yX6_rideMinutes : MethodName := ⟨RX6, "rideMinutes", "()I"⟩
def RX7 : String := "CrewPairer$Search"
def TX7 : u_T := fun k => match k with
  | 0 => ("CrewPairer$Search", "plan", "LCrewPairer$Plan;", true)
  | 1 => ("CrewPairer$Search", "row", "LCrewPairer$Row;", true)
  | 2 => ("CrewPairer$Search", "path", "[I", true)
  | 3 => ("CrewPairer$Search", "sum", "I", false)
  | 4 => ("CrewPairer$Search", "best", "[I", true)
  | 5 => ("CrewPairer$Search", "bestCount", "I", false)
  | _ => ("CrewPairer$Search", "bestSum", "I", false)
def tyX7 : Nat → FieldType := fun k => match k with
  | 0 => .object "CrewPairer$Plan"
  | 1 => .object "CrewPairer$Row"
  | 2 => .array .int
  | 3 => .int
  | 4 => .array .int
  | 5 => .int
  | _ => .int
abbrev wsX70 : List Cond := u_ws RX7 TX7 7
theorem nmX7 : ∀ a, a < 7 → ∀ b, b < 7 → a ≠ b → (TX7 a).2.1 ≠ (TX7 b).2.1 := by decide +kernel
theorem tyX7_ok : ∀ k, k < 7 → parseFieldDescriptor (TX7 k).2.2.1 = some (tyX7 k) := by decide +kernel
abbrev cX7_init : ByteArray := prog_9_method_1_code
def yX7_init : MethodName := ⟨RX7, "<init>", "(LCrewPairer$Plan;LCrewPairer$Row;)V"⟩
abbrev cX7_run : ByteArray := prog_9_method_2_code
def yX7_run : MethodName := ⟨RX7, "run", "(I)V"⟩
abbrev cX7_extend : ByteArray := prog_9_method_3_code
def yX7_extend : MethodName := ⟨RX7, "extend", "(LCrewPairer$Search;I)V"⟩
abbrev cX7_isBehind : ByteArray := prog_9_method_4_code
def yX7_isBehind : MethodName := ⟨RX7, "isBehind", "(I)Z"⟩
abbrev cX7_judge : ByteArray := prog_9_method_5_code
def yX7_judge : MethodName := ⟨RX7, "judge", "(I)V"⟩
def RX8 : String := "CrewPairer"
def TX8 : u_T := fun k => match k with
  | 0 => ("CrewPairer", "plan", "LCrewPairer$Plan;", true)
  | 1 => ("CrewPairer", "before", "LCrewPairer$Plan;", true)
  | 2 => ("CrewPairer", "snapshot", "LCrewPairer$Plan;", true)
  | 3 => ("CrewPairer", "saved", "Z", false)
  | 4 => ("CrewPairer", "history", "LCrewPairer$History;", true)
  | 5 => ("CrewPairer", "row", "LCrewPairer$Row;", true)
  | 6 => ("CrewPairer", "offered", "LCrewPairer$Offer;", true)
  | 7 => ("CrewPairer", "repairs", "LCrewPairer$Repairs;", true)
  | 8 => ("CrewPairer", "search", "LCrewPairer$Search;", true)
  | 9 => ("CrewPairer", "report", "LCrewPairer$Report;", true)
  | _ => ("CrewPairer", "commands", "LCrewPairer$Commands;", true)
def tyX8 : Nat → FieldType := fun k => match k with
  | 0 => .object "CrewPairer$Plan"
  | 1 => .object "CrewPairer$Plan"
  | 2 => .object "CrewPairer$Plan"
  | 3 => .boolean
  | 4 => .object "CrewPairer$History"
  | 5 => .object "CrewPairer$Row"
  | 6 => .object "CrewPairer$Offer"
  | 7 => .object "CrewPairer$Repairs"
  | 8 => .object "CrewPairer$Search"
  | 9 => .object "CrewPairer$Report"
  | _ => .object "CrewPairer$Commands"
abbrev wsX80 : List Cond := u_ws RX8 TX8 11
theorem nmX8 : ∀ a, a < 11 → ∀ b, b < 11 → a ≠ b → (TX8 a).2.1 ≠ (TX8 b).2.1 := by decide +kernel
theorem tyX8_ok : ∀ k, k < 11 → parseFieldDescriptor (TX8 k).2.2.1 = some (tyX8 k) := by decide +kernel
abbrev cX8_init : ByteArray := prog_1_method_1_code
def yX8_init : MethodName := ⟨RX8, "<init>", "()V"⟩
abbrev cX8_addLeg : ByteArray := prog_1_method_2_code
def yX8_addLeg : MethodName := ⟨RX8, "addLeg", "(IIII)I"⟩
abbrev cX8_addCrew : ByteArray := prog_1_method_3_code
def yX8_addCrew : MethodName := ⟨RX8, "addCrew", "(I)I"⟩
abbrev cX8_legCount : ByteArray := prog_1_method_4_code
def yX8_legCount : MethodName := ⟨RX8, "legCount", "()I"⟩
abbrev cX8_crewCount : ByteArray := prog_1_method_5_code
def yX8_crewCount : MethodName := ⟨RX8, "crewCount", "()I"⟩
abbrev cX8_leg : ByteArray := prog_1_method_6_code
def yX8_leg : MethodName := ⟨RX8, "leg", "(II)I"⟩
abbrev cX8_setRule : ByteArray := prog_1_method_7_code
def yX8_setRule : MethodName := ⟨RX8, "setRule", "(II)I"⟩
abbrev cX8_rule : ByteArray := prog_1_method_8_code
def yX8_rule : MethodName := ⟨RX8, "rule", "(I)I"⟩
abbrev cX8_fly : ByteArray := prog_1_method_9_code
def yX8_fly : MethodName := ⟨RX8, "fly", "(II)I"⟩
abbrev cX8_ride : ByteArray := prog_1_method_10_code
def yX8_ride : MethodName := ⟨RX8, "ride", "(II)I"⟩
abbrev cX8_drop : ByteArray := prog_1_method_11_code
def yX8_drop : MethodName := ⟨RX8, "drop", "(II)I"⟩
abbrev cX8_reason : ByteArray := prog_1_method_12_code
def yX8_reason : MethodName := ⟨RX8, "reason", "(IIZ)I"⟩
abbrev cX8_place : ByteArray := prog_1_method_13_code
def yX8_place : MethodName := ⟨RX8, "place", "(IIZ)I"⟩
abbrev cX8_itemCount : ByteArray := prog_1_method_14_code
def yX8_itemCount : MethodName := ⟨RX8, "itemCount", "(I)I"⟩
abbrev cX8_item : ByteArray := prog_1_method_15_code
def yX8_item : MethodName := ⟨RX8, "item", "(III)I"⟩
abbrev cX8_dutyCount : ByteArray := prog_1_method_16_code
def yX8_dutyCount : MethodName := ⟨RX8, "dutyCount", "(I)I"⟩
abbrev cX8_duty : ByteArray := prog_1_method_17_code
def yX8_duty : MethodName := ⟨RX8, "duty", "(III)I"⟩
abbrev cX8_violationCount : ByteArray := prog_1_method_18_code
def yX8_violationCount : MethodName := ⟨RX8, "violationCount", "(I)I"⟩
abbrev cX8_violation : ByteArray := prog_1_method_19_code
def yX8_violation : MethodName := ⟨RX8, "violation", "(III)I"⟩
abbrev cX8_minutes : ByteArray := prog_1_method_20_code
def yX8_minutes : MethodName := ⟨RX8, "minutes", "(I)I"⟩
abbrev cX8_within : ByteArray := prog_1_method_21_code
def yX8_within : MethodName := ⟨RX8, "within", "(III)I"⟩
abbrev cX8_home : ByteArray := prog_1_method_22_code
def yX8_home : MethodName := ⟨RX8, "home", "(I)I"⟩
abbrev cX8_pairings : ByteArray := prog_1_method_23_code
def yX8_pairings : MethodName := ⟨RX8, "pairings", "(I)I"⟩
abbrev cX8_cost : ByteArray := prog_1_method_24_code
def yX8_cost : MethodName := ⟨RX8, "cost", "(II)I"⟩
abbrev cX8_openCount : ByteArray := prog_1_method_25_code
def yX8_openCount : MethodName := ⟨RX8, "openCount", "()I"⟩
abbrev cX8_open : ByteArray := prog_1_method_26_code
def yX8_open : MethodName := ⟨RX8, "open", "(I)I"⟩
abbrev cX8_delay : ByteArray := prog_1_method_27_code
def yX8_delay : MethodName := ⟨RX8, "delay", "(II)I"⟩
abbrev cX8_cancel : ByteArray := prog_1_method_28_code
def yX8_cancel : MethodName := ⟨RX8, "cancel", "(I)I"⟩
abbrev cX8_setReserve : ByteArray := prog_1_method_29_code
def yX8_setReserve : MethodName := ⟨RX8, "setReserve", "(III)I"⟩
abbrev cX8_reserve : ByteArray := prog_1_method_30_code
def yX8_reserve : MethodName := ⟨RX8, "reserve", "(II)I"⟩
abbrev cX8_called : ByteArray := prog_1_method_31_code
def yX8_called : MethodName := ⟨RX8, "called", "(I)I"⟩
abbrev cX8_pair : ByteArray := prog_1_method_32_code
def yX8_pair : MethodName := ⟨RX8, "pair", "()I"⟩
abbrev cX8_offer : ByteArray := prog_1_method_33_code
def yX8_offer : MethodName := ⟨RX8, "offer", "(II)I"⟩
abbrev cX8_repair : ByteArray := prog_1_method_34_code
def yX8_repair : MethodName := ⟨RX8, "repair", "()I"⟩
abbrev cX8_repaired : ByteArray := prog_1_method_35_code
def yX8_repaired : MethodName := ⟨RX8, "repaired", "(II)I"⟩
abbrev cX8_bestMinutes : ByteArray := prog_1_method_36_code
def yX8_bestMinutes : MethodName := ⟨RX8, "bestMinutes", "(I)I"⟩
abbrev cX8_bestLeg : ByteArray := prog_1_method_37_code
def yX8_bestLeg : MethodName := ⟨RX8, "bestLeg", "(II)I"⟩
abbrev cX8_takeBest : ByteArray := prog_1_method_38_code
def yX8_takeBest : MethodName := ⟨RX8, "takeBest", "(I)I"⟩
abbrev cX8_letter : ByteArray := prog_1_method_39_code
def yX8_letter : MethodName := ⟨RX8, "letter", "(II)I"⟩
abbrev cX8_feed : ByteArray := prog_1_method_40_code
def yX8_feed : MethodName := ⟨RX8, "feed", "(I)I"⟩
abbrev cX8_execute : ByteArray := prog_1_method_41_code
def yX8_execute : MethodName := ⟨RX8, "execute", "()I"⟩
abbrev cX8_save : ByteArray := prog_1_method_42_code
def yX8_save : MethodName := ⟨RX8, "save", "()I"⟩
abbrev cX8_restore : ByteArray := prog_1_method_43_code
def yX8_restore : MethodName := ⟨RX8, "restore", "()I"⟩
abbrev cX8_undo : ByteArray := prog_1_method_44_code
def yX8_undo : MethodName := ⟨RX8, "undo", "()I"⟩
abbrev cX8_kept : ByteArray := prog_1_method_45_code
def yX8_kept : MethodName := ⟨RX8, "kept", "(I)I"⟩
abbrev cX8_isIn : ByteArray := prog_1_method_46_code
def yX8_isIn : MethodName := ⟨RX8, "isIn", "(III)Z"⟩
abbrev cX8_putLeg : ByteArray := prog_1_method_47_code
def yX8_putLeg : MethodName := ⟨RX8, "putLeg", "(IIII)I"⟩
abbrev cX8_putCrew : ByteArray := prog_1_method_48_code
def yX8_putCrew : MethodName := ⟨RX8, "putCrew", "(I)I"⟩
abbrev cX8_changeRule : ByteArray := prog_1_method_49_code
def yX8_changeRule : MethodName := ⟨RX8, "changeRule", "(II)I"⟩
abbrev cX8_take : ByteArray := prog_1_method_50_code
def yX8_take : MethodName := ⟨RX8, "take", "(III)I"⟩
abbrev cX8_leave : ByteArray := prog_1_method_51_code
def yX8_leave : MethodName := ⟨RX8, "leave", "(II)I"⟩
abbrev cX8_shift : ByteArray := prog_1_method_52_code
def yX8_shift : MethodName := ⟨RX8, "shift", "(II)I"⟩
abbrev cX8_strike : ByteArray := prog_1_method_53_code
def yX8_strike : MethodName := ⟨RX8, "strike", "(I)I"⟩
abbrev cX8_changeReserve : ByteArray := prog_1_method_54_code
def yX8_changeReserve : MethodName := ⟨RX8, "changeReserve", "(III)I"⟩
abbrev cX8_reasonAgainst : ByteArray := prog_1_method_55_code
def yX8_reasonAgainst : MethodName := ⟨RX8, "reasonAgainst", "(III)I"⟩
abbrev cX8_costOf : ByteArray := prog_1_method_56_code
def yX8_costOf : MethodName := ⟨RX8, "costOf", "(II)I"⟩
abbrev cX8_reserveFor : ByteArray := prog_1_method_57_code
def yX8_reserveFor : MethodName := ⟨RX8, "reserveFor", "(I)I"⟩
abbrev cX8_pairOpenLegs : ByteArray := prog_1_method_58_code
def yX8_pairOpenLegs : MethodName := ⟨RX8, "pairOpenLegs", "()I"⟩
abbrev cX8_findOffer : ByteArray := prog_1_method_59_code
def yX8_findOffer : MethodName := ⟨RX8, "findOffer", "(I)V"⟩
abbrev cX8_repairRows : ByteArray := prog_1_method_60_code
def yX8_repairRows : MethodName := ⟨RX8, "repairRows", "()I"⟩
abbrev cX8_clearViolations : ByteArray := prog_1_method_61_code
def yX8_clearViolations : MethodName := ⟨RX8, "clearViolations", "(I)V"⟩
abbrev cX8_takePairing : ByteArray := prog_1_method_62_code
def yX8_takePairing : MethodName := ⟨RX8, "takePairing", "(I)I"⟩
abbrev cX8_runCommand : ByteArray := prog_1_method_63_code
def yX8_runCommand : MethodName := ⟨RX8, "runCommand", "(I)I"⟩
def RX9 : String := "CrewPairerModel"
def TX9 : u_T := fun k => match k with
  | 0 => ("CrewPairerModel", "s", "[I", true)
  | 1 => ("CrewPairerModel", "saved", "[I", true)
  | 2 => ("CrewPairerModel", "isSaved", "Z", false)
  | 3 => ("CrewPairerModel", "past", "[I", true)
  | 4 => ("CrewPairerModel", "pastMany", "I", false)
  | 5 => ("CrewPairerModel", "before", "[I", true)
  | 6 => ("CrewPairerModel", "isQuiet", "Z", false)
  | 7 => ("CrewPairerModel", "row", "[I", true)
  | 8 => ("CrewPairerModel", "many", "I", false)
  | 9 => ("CrewPairerModel", "base", "I", false)
  | 10 => ("CrewPairerModel", "opens", "[I", true)
  | 11 => ("CrewPairerModel", "openMany", "I", false)
  | 12 => ("CrewPairerModel", "offerCrew", "I", false)
  | 13 => ("CrewPairerModel", "offerLeg", "I", false)
  | 14 => ("CrewPairerModel", "offerPrice", "I", false)
  | 15 => ("CrewPairerModel", "offerMinutes", "I", false)
  | 16 => ("CrewPairerModel", "passed", "[I", true)
  | 17 => ("CrewPairerModel", "removed", "[I", true)
  | 18 => ("CrewPairerModel", "removedMany", "I", false)
  | 19 => ("CrewPairerModel", "way", "[I", true)
  | 20 => ("CrewPairerModel", "best", "[I", true)
  | 21 => ("CrewPairerModel", "bestMany", "I", false)
  | 22 => ("CrewPairerModel", "bestMinutes", "I", false)
  | 23 => ("CrewPairerModel", "written", "[C", true)
  | 24 => ("CrewPairerModel", "writtenMany", "I", false)
  | 25 => ("CrewPairerModel", "text", "[C", true)
  | 26 => ("CrewPairerModel", "length", "I", false)
  | 27 => ("CrewPairerModel", "place", "I", false)
  | 28 => ("CrewPairerModel", "isWrong", "Z", false)
  | _ => ("CrewPairerModel", "numbers", "[I", true)
def tyX9 : Nat → FieldType := fun k => match k with
  | 0 => .array .int
  | 1 => .array .int
  | 2 => .boolean
  | 3 => .array .int
  | 4 => .int
  | 5 => .array .int
  | 6 => .boolean
  | 7 => .array .int
  | 8 => .int
  | 9 => .int
  | 10 => .array .int
  | 11 => .int
  | 12 => .int
  | 13 => .int
  | 14 => .int
  | 15 => .int
  | 16 => .array .int
  | 17 => .array .int
  | 18 => .int
  | 19 => .array .int
  | 20 => .array .int
  | 21 => .int
  | 22 => .int
  | 23 => .array .char
  | 24 => .int
  | 25 => .array .char
  | 26 => .int
  | 27 => .int
  | 28 => .boolean
  | _ => .array .int
abbrev wsX90 : List Cond := u_ws RX9 TX9 30
theorem nmX9 : ∀ a, a < 30 → ∀ b, b < 30 → a ≠ b → (TX9 a).2.1 ≠ (TX9 b).2.1 := by decide +kernel
theorem tyX9_ok : ∀ k, k < 30 → parseFieldDescriptor (TX9 k).2.2.1 = some (tyX9 k) := by decide +kernel
abbrev cX9_init : ByteArray := prog_11_method_1_code
def yX9_init : MethodName := ⟨RX9, "<init>", "()V"⟩
abbrev cX9_in : ByteArray := prog_11_method_2_code
def yX9_in : MethodName := ⟨RX9, "in", "(III)Z"⟩
abbrev cX9_isLeg : ByteArray := prog_11_method_3_code
def yX9_isLeg : MethodName := ⟨RX9, "isLeg", "(I)Z"⟩
abbrev cX9_isCrew : ByteArray := prog_11_method_4_code
def yX9_isCrew : MethodName := ⟨RX9, "isCrew", "(I)Z"⟩
abbrev cX9_of : ByteArray := prog_11_method_5_code
def yX9_of : MethodName := ⟨RX9, "of", "(II)I"⟩
abbrev cX9_lengthOf : ByteArray := prog_11_method_6_code
def yX9_lengthOf : MethodName := ⟨RX9, "lengthOf", "(I)I"⟩
abbrev cX9_ofCrew : ByteArray := prog_11_method_7_code
def yX9_ofCrew : MethodName := ⟨RX9, "ofCrew", "(II)I"⟩
abbrev cX9_crewAt : ByteArray := prog_11_method_8_code
def yX9_crewAt : MethodName := ⟨RX9, "crewAt", "(II)I"⟩
abbrev cX9_push : ByteArray := prog_11_method_9_code
def yX9_push : MethodName := ⟨RX9, "push", "([I)V"⟩
abbrev cX9_change : ByteArray := prog_11_method_10_code
def yX9_change : MethodName := ⟨RX9, "change", "()V"⟩
abbrev cX9_isThere : ByteArray := prog_11_method_11_code
def yX9_isThere : MethodName := ⟨RX9, "isThere", "(IIII)Z"⟩
abbrev cX9_addLeg : ByteArray := prog_11_method_12_code
def yX9_addLeg : MethodName := ⟨RX9, "addLeg", "(IIII)I"⟩
abbrev cX9_addCrew : ByteArray := prog_11_method_13_code
def yX9_addCrew : MethodName := ⟨RX9, "addCrew", "(I)I"⟩
abbrev cX9_legCount : ByteArray := prog_11_method_14_code
def yX9_legCount : MethodName := ⟨RX9, "legCount", "()I"⟩
abbrev cX9_crewCount : ByteArray := prog_11_method_15_code
def yX9_crewCount : MethodName := ⟨RX9, "crewCount", "()I"⟩
abbrev cX9_placeIn : ByteArray := prog_11_method_16_code
def yX9_placeIn : MethodName := ⟨RX9, "placeIn", "(II)I"⟩
abbrev cX9_flierOf : ByteArray := prog_11_method_17_code
def yX9_flierOf : MethodName := ⟨RX9, "flierOf", "(I)I"⟩
abbrev cX9_leg : ByteArray := prog_11_method_18_code
def yX9_leg : MethodName := ⟨RX9, "leg", "(II)I"⟩
abbrev cX9_setRule : ByteArray := prog_11_method_19_code
def yX9_setRule : MethodName := ⟨RX9, "setRule", "(II)I"⟩
abbrev cX9_rule : ByteArray := prog_11_method_20_code
def yX9_rule : MethodName := ⟨RX9, "rule", "(I)I"⟩
abbrev cX9_take : ByteArray := prog_11_method_21_code
def yX9_take : MethodName := ⟨RX9, "take", "(I)V"⟩
abbrev cX9_give : ByteArray := prog_11_method_22_code
def yX9_give : MethodName := ⟨RX9, "give", "(I)V"⟩
abbrev cX9_legAt : ByteArray := prog_11_method_23_code
def yX9_legAt : MethodName := ⟨RX9, "legAt", "(I)I"⟩
abbrev cX9_isFlown : ByteArray := prog_11_method_24_code
def yX9_isFlown : MethodName := ⟨RX9, "isFlown", "(I)Z"⟩
abbrev cX9_put : ByteArray := prog_11_method_25_code
def yX9_put : MethodName := ⟨RX9, "put", "(IZ)I"⟩
abbrev cX9_takeOut : ByteArray := prog_11_method_26_code
def yX9_takeOut : MethodName := ⟨RX9, "takeOut", "(I)V"⟩
abbrev cX9_gapBefore : ByteArray := prog_11_method_27_code
def yX9_gapBefore : MethodName := ⟨RX9, "gapBefore", "(I)I"⟩
abbrev cX9_beginsDuty : ByteArray := prog_11_method_28_code
def yX9_beginsDuty : MethodName := ⟨RX9, "beginsDuty", "(I)Z"⟩
abbrev cX9_dutyEnd : ByteArray := prog_11_method_29_code
def yX9_dutyEnd : MethodName := ⟨RX9, "dutyEnd", "(I)I"⟩
abbrev cX9_dutyMinutes : ByteArray := prog_11_method_30_code
def yX9_dutyMinutes : MethodName := ⟨RX9, "dutyMinutes", "(I)I"⟩
abbrev cX9_flownFrom : ByteArray := prog_11_method_31_code
def yX9_flownFrom : MethodName := ⟨RX9, "flownFrom", "(II)I"⟩
abbrev cX9_flownWithin : ByteArray := prog_11_method_32_code
def yX9_flownWithin : MethodName := ⟨RX9, "flownWithin", "(II)I"⟩
abbrev cX9_violates : ByteArray := prog_11_method_33_code
def yX9_violates : MethodName := ⟨RX9, "violates", "(II)Z"⟩
abbrev cX9_violationAt : ByteArray := prog_11_method_34_code
def yX9_violationAt : MethodName := ⟨RX9, "violationAt", "(I)I"⟩
abbrev cX9_violations : ByteArray := prog_11_method_35_code
def yX9_violations : MethodName := ⟨RX9, "violations", "()I"⟩
abbrev cX9_hinders : ByteArray := prog_11_method_36_code
def yX9_hinders : MethodName := ⟨RX9, "hinders", "(IZ)I"⟩
abbrev cX9_hinders_ : ByteArray := prog_11_method_37_code
def yX9_hinders_ : MethodName := ⟨RX9, "hinders", "(IIZ)I"⟩
abbrev cX9_enter : ByteArray := prog_11_method_38_code
def yX9_enter : MethodName := ⟨RX9, "enter", "(IIZ)I"⟩
abbrev cX9_assign : ByteArray := prog_11_method_39_code
def yX9_assign : MethodName := ⟨RX9, "assign", "(IIZ)I"⟩
abbrev cX9_fly : ByteArray := prog_11_method_40_code
def yX9_fly : MethodName := ⟨RX9, "fly", "(II)I"⟩
abbrev cX9_ride : ByteArray := prog_11_method_41_code
def yX9_ride : MethodName := ⟨RX9, "ride", "(II)I"⟩
abbrev cX9_drop : ByteArray := prog_11_method_42_code
def yX9_drop : MethodName := ⟨RX9, "drop", "(II)I"⟩
abbrev cX9_reason : ByteArray := prog_11_method_43_code
def yX9_reason : MethodName := ⟨RX9, "reason", "(IIZ)I"⟩
abbrev cX9_place : ByteArray := prog_11_method_44_code
def yX9_place : MethodName := ⟨RX9, "place", "(IIZ)I"⟩
abbrev cX9_itemCount : ByteArray := prog_11_method_45_code
def yX9_itemCount : MethodName := ⟨RX9, "itemCount", "(I)I"⟩
abbrev cX9_dutyOf : ByteArray := prog_11_method_46_code
def yX9_dutyOf : MethodName := ⟨RX9, "dutyOf", "(I)I"⟩
abbrev cX9_item : ByteArray := prog_11_method_47_code
def yX9_item : MethodName := ⟨RX9, "item", "(III)I"⟩
abbrev cX9_dutyCount : ByteArray := prog_11_method_48_code
def yX9_dutyCount : MethodName := ⟨RX9, "dutyCount", "(I)I"⟩
abbrev cX9_duty : ByteArray := prog_11_method_49_code
def yX9_duty : MethodName := ⟨RX9, "duty", "(III)I"⟩
abbrev cX9_violationCount : ByteArray := prog_11_method_50_code
def yX9_violationCount : MethodName := ⟨RX9, "violationCount", "(I)I"⟩
abbrev cX9_violation : ByteArray := prog_11_method_51_code
def yX9_violation : MethodName := ⟨RX9, "violation", "(III)I"⟩
abbrev cX9_minutesOf : ByteArray := prog_11_method_52_code
def yX9_minutesOf : MethodName := ⟨RX9, "minutesOf", "(I)I"⟩
abbrev cX9_minutes : ByteArray := prog_11_method_53_code
def yX9_minutes : MethodName := ⟨RX9, "minutes", "(I)I"⟩
abbrev cX9_within : ByteArray := prog_11_method_54_code
def yX9_within : MethodName := ⟨RX9, "within", "(III)I"⟩
abbrev cX9_isHome : ByteArray := prog_11_method_55_code
def yX9_isHome : MethodName := ⟨RX9, "isHome", "()Z"⟩
abbrev cX9_home : ByteArray := prog_11_method_56_code
def yX9_home : MethodName := ⟨RX9, "home", "(I)I"⟩
abbrev cX9_pairings : ByteArray := prog_11_method_57_code
def yX9_pairings : MethodName := ⟨RX9, "pairings", "(I)I"⟩
abbrev cX9_costOf : ByteArray := prog_11_method_58_code
def yX9_costOf : MethodName := ⟨RX9, "costOf", "(II)I"⟩
abbrev cX9_cost : ByteArray := prog_11_method_59_code
def yX9_cost : MethodName := ⟨RX9, "cost", "(II)I"⟩
abbrev cX9_isOpen : ByteArray := prog_11_method_60_code
def yX9_isOpen : MethodName := ⟨RX9, "isOpen", "(I)Z"⟩
abbrev cX9_findOpen : ByteArray := prog_11_method_61_code
def yX9_findOpen : MethodName := ⟨RX9, "findOpen", "()V"⟩
abbrev cX9_openCount : ByteArray := prog_11_method_62_code
def yX9_openCount : MethodName := ⟨RX9, "openCount", "()I"⟩
abbrev cX9_open : ByteArray := prog_11_method_63_code
def yX9_open : MethodName := ⟨RX9, "open", "(I)I"⟩
abbrev cX9_reorder : ByteArray := prog_11_method_64_code
def yX9_reorder : MethodName := ⟨RX9, "reorder", "(I)V"⟩
abbrev cX9_delay : ByteArray := prog_11_method_65_code
def yX9_delay : MethodName := ⟨RX9, "delay", "(II)I"⟩
abbrev cX9_cancel : ByteArray := prog_11_method_66_code
def yX9_cancel : MethodName := ⟨RX9, "cancel", "(I)I"⟩
abbrev cX9_isReserve : ByteArray := prog_11_method_67_code
def yX9_isReserve : MethodName := ⟨RX9, "isReserve", "(I)Z"⟩
abbrev cX9_setReserve : ByteArray := prog_11_method_68_code
def yX9_setReserve : MethodName := ⟨RX9, "setReserve", "(III)I"⟩
abbrev cX9_reserve : ByteArray := prog_11_method_69_code
def yX9_reserve : MethodName := ⟨RX9, "reserve", "(II)I"⟩
abbrev cX9_calledFor : ByteArray := prog_11_method_70_code
def yX9_calledFor : MethodName := ⟨RX9, "calledFor", "(I)I"⟩
abbrev cX9_called : ByteArray := prog_11_method_71_code
def yX9_called : MethodName := ⟨RX9, "called", "(I)I"⟩
abbrev cX9_consider : ByteArray := prog_11_method_72_code
def yX9_consider : MethodName := ⟨RX9, "consider", "(III)V"⟩
abbrev cX9_isWay : ByteArray := prog_11_method_73_code
def yX9_isWay : MethodName := ⟨RX9, "isWay", "(III)Z"⟩
abbrev cX9_findOffer : ByteArray := prog_11_method_74_code
def yX9_findOffer : MethodName := ⟨RX9, "findOffer", "(I)V"⟩
abbrev cX9_pair : ByteArray := prog_11_method_75_code
def yX9_pair : MethodName := ⟨RX9, "pair", "()I"⟩
abbrev cX9_offer : ByteArray := prog_11_method_76_code
def yX9_offer : MethodName := ⟨RX9, "offer", "(II)I"⟩
abbrev cX9_repair : ByteArray := prog_11_method_77_code
def yX9_repair : MethodName := ⟨RX9, "repair", "()I"⟩
abbrev cX9_callFor : ByteArray := prog_11_method_78_code
def yX9_callFor : MethodName := ⟨RX9, "callFor", "(II)V"⟩
abbrev cX9_repaired : ByteArray := prog_11_method_79_code
def yX9_repaired : MethodName := ⟨RX9, "repaired", "(II)I"⟩
abbrev cX9_search : ByteArray := prog_11_method_80_code
def yX9_search : MethodName := ⟨RX9, "search", "(III)V"⟩
abbrev cX9_findBest : ByteArray := prog_11_method_81_code
def yX9_findBest : MethodName := ⟨RX9, "findBest", "(I)V"⟩
abbrev cX9_bestMinutes : ByteArray := prog_11_method_82_code
def yX9_bestMinutes : MethodName := ⟨RX9, "bestMinutes", "(I)I"⟩
abbrev cX9_bestLeg : ByteArray := prog_11_method_83_code
def yX9_bestLeg : MethodName := ⟨RX9, "bestLeg", "(II)I"⟩
abbrev cX9_takeBest : ByteArray := prog_11_method_84_code
def yX9_takeBest : MethodName := ⟨RX9, "takeBest", "(I)I"⟩
abbrev cX9_write : ByteArray := prog_11_method_85_code
def yX9_write : MethodName := ⟨RX9, "write", "(I)V"⟩
abbrev cX9_writeTwo : ByteArray := prog_11_method_86_code
def yX9_writeTwo : MethodName := ⟨RX9, "writeTwo", "(I)V"⟩
abbrev cX9_writeTime : ByteArray := prog_11_method_87_code
def yX9_writeTime : MethodName := ⟨RX9, "writeTime", "(I)V"⟩
abbrev cX9_writeItem : ByteArray := prog_11_method_88_code
def yX9_writeItem : MethodName := ⟨RX9, "writeItem", "(I)V"⟩
abbrev cX9_letter : ByteArray := prog_11_method_89_code
def yX9_letter : MethodName := ⟨RX9, "letter", "(II)I"⟩
abbrev cX9_feed : ByteArray := prog_11_method_90_code
def yX9_feed : MethodName := ⟨RX9, "feed", "(I)I"⟩
abbrev cX9_here : ByteArray := prog_11_method_91_code
def yX9_here : MethodName := ⟨RX9, "here", "()I"⟩
abbrev cX9_isWord : ByteArray := prog_11_method_92_code
def yX9_isWord : MethodName := ⟨RX9, "isWord", "(ILjava/lang/String;)Z"⟩
abbrev cX9_wordOf : ByteArray := prog_11_method_93_code
def yX9_wordOf : MethodName := ⟨RX9, "wordOf", "(I)I"⟩
abbrev cX9_readNumber : ByteArray := prog_11_method_94_code
def yX9_readNumber : MethodName := ⟨RX9, "readNumber", "(I)V"⟩
abbrev cX9_perform : ByteArray := prog_11_method_95_code
def yX9_perform : MethodName := ⟨RX9, "perform", "(I)I"⟩
abbrev cX9_command : ByteArray := prog_11_method_96_code
def yX9_command : MethodName := ⟨RX9, "command", "(Z)I"⟩
abbrev cX9_execute : ByteArray := prog_11_method_97_code
def yX9_execute : MethodName := ⟨RX9, "execute", "()I"⟩
abbrev cX9_save : ByteArray := prog_11_method_98_code
def yX9_save : MethodName := ⟨RX9, "save", "()I"⟩
abbrev cX9_restore : ByteArray := prog_11_method_99_code
def yX9_restore : MethodName := ⟨RX9, "restore", "()I"⟩
abbrev cX9_undo : ByteArray := prog_11_method_100_code
def yX9_undo : MethodName := ⟨RX9, "undo", "()I"⟩
def RJ9 : String := "java/lang/Math"
def TJ9 : u_T := fun k => match k with
  | _ => ("", "", "", false)
def tyJ9 : Nat → FieldType := fun k => match k with
  | _ => .int
abbrev wsJ90 : List Cond := u_ws RJ9 TJ9 0
theorem nmJ9 : ∀ a, a < 0 → ∀ b, b < 0 → a ≠ b → (TJ9 a).2.1 ≠ (TJ9 b).2.1 := by decide +kernel
theorem tyJ9_ok : ∀ k, k < 0 → parseFieldDescriptor (TJ9 k).2.2.1 = some (tyJ9 k) := by decide +kernel
abbrev cJ9_max_7cf53 : ByteArray := prog_12_method_65_code
def yJ9_max_7cf53 : MethodName := ⟨RJ9, "max", "(II)I"⟩
abbrev cJ9_min_7cf53 : ByteArray := prog_12_method_69_code
def yJ9_min_7cf53 : MethodName := ⟨RJ9, "min", "(II)I"⟩
def RJ0 : String := "java/lang/String"
def TJ0 : u_T := fun k => match k with
  | _ => ("", "", "", false)
def tyJ0 : Nat → FieldType := fun k => match k with
  | _ => .int
abbrev wsJ00 : List Cond := u_ws RJ0 TJ0 0
theorem nmJ0 : ∀ a, a < 0 → ∀ b, b < 0 → a ≠ b → (TJ0 a).2.1 ≠ (TJ0 b).2.1 := by decide +kernel
theorem tyJ0_ok : ∀ k, k < 0 → parseFieldDescriptor (TJ0 k).2.2.1 = some (tyJ0 k) := by decide +kernel
abbrev cJ0_length_8abf5 : ByteArray := prog_13_method_54_code
def yJ0_length_8abf5 : MethodName := ⟨RJ0, "length", "()I"⟩
abbrev cJ0_charAt_5068e : ByteArray := prog_13_method_56_code
def yJ0_charAt_5068e : MethodName := ⟨RJ0, "charAt", "(I)C"⟩
abbrev cJ0_coder_7d493 : ByteArray := prog_13_method_152_code
def yJ0_coder_7d493 : MethodName := ⟨RJ0, "coder", "()B"⟩
abbrev cJ0_isLatin1_aae02 : ByteArray := prog_13_method_154_code
def yJ0_isLatin1_aae02 : MethodName := ⟨RJ0, "isLatin1", "()Z"⟩
abbrev cJ0_checkIndex_df160 : ByteArray := prog_13_method_155_code
def yJ0_checkIndex_df160 : MethodName := ⟨RJ0, "checkIndex", "(II)V"⟩
def RJ1 : String := "java/lang/StringLatin1"
def TJ1 : u_T := fun k => match k with
  | _ => ("", "", "", false)
def tyJ1 : Nat → FieldType := fun k => match k with
  | _ => .int
abbrev wsJ10 : List Cond := u_ws RJ1 TJ1 0
theorem nmJ1 : ∀ a, a < 0 → ∀ b, b < 0 → a ≠ b → (TJ1 a).2.1 ≠ (TJ1 b).2.1 := by decide +kernel
theorem tyJ1_ok : ∀ k, k < 0 → parseFieldDescriptor (TJ1 k).2.2.1 = some (tyJ1 k) := by decide +kernel
abbrev cJ1_charAt_3b067 : ByteArray := prog_14_method_2_code
def yJ1_charAt_3b067 : MethodName := ⟨RJ1, "charAt", "([BI)C"⟩
def RJ2 : String := "java/lang/StringUTF16"
def TJ2 : u_T := fun k => match k with
  | _ => ("", "", "", false)
def tyJ2 : Nat → FieldType := fun k => match k with
  | _ => .int
abbrev wsJ20 : List Cond := u_ws RJ2 TJ2 0
theorem nmJ2 : ∀ a, a < 0 → ∀ b, b < 0 → a ≠ b → (TJ2 a).2.1 ≠ (TJ2 b).2.1 := by decide +kernel
theorem tyJ2_ok : ∀ k, k < 0 → parseFieldDescriptor (TJ2 k).2.2.1 = some (tyJ2 k) := by decide +kernel
abbrev cJ2_getChar_3b067 : ByteArray := prog_15_method_5_code
def yJ2_getChar_3b067 : MethodName := ⟨RJ2, "getChar", "([BI)C"⟩
abbrev cJ2_length_9d52b : ByteArray := prog_15_method_6_code
def yJ2_length_9d52b : MethodName := ⟨RJ2, "length", "([B)I"⟩
abbrev cJ2_charAt_3b067 : ByteArray := prog_15_method_83_code
def yJ2_charAt_3b067 : MethodName := ⟨RJ2, "charAt", "([BI)C"⟩
abbrev cJ2_checkIndex_2214a : ByteArray := prog_15_method_91_code
def yJ2_checkIndex_2214a : MethodName := ⟨RJ2, "checkIndex", "(I[B)V"⟩
def RJ10 : String := "java/lang/System"
def TJ10 : u_T := fun k => match k with
  | _ => ("", "", "", false)
def tyJ10 : Nat → FieldType := fun k => match k with
  | _ => .int
abbrev wsJ100 : List Cond := u_ws RJ10 TJ10 0
theorem nmJ10 : ∀ a, a < 0 → ∀ b, b < 0 → a ≠ b → (TJ10 a).2.1 ≠ (TJ10 b).2.1 := by decide +kernel
theorem tyJ10_ok : ∀ k, k < 0 → parseFieldDescriptor (TJ10 k).2.2.1 = some (tyJ10 k) := by decide +kernel
def RJ3 : String := "jdk/internal/util/Preconditions"
def TJ3 : u_T := fun k => match k with
  | _ => ("", "", "", false)
def tyJ3 : Nat → FieldType := fun k => match k with
  | _ => .int
abbrev wsJ30 : List Cond := u_ws RJ3 TJ3 0
theorem nmJ3 : ∀ a, a < 0 → ∀ b, b < 0 → a ≠ b → (TJ3 a).2.1 ≠ (TJ3 b).2.1 := by decide +kernel
theorem tyJ3_ok : ∀ k, k < 0 → parseFieldDescriptor (TJ3 k).2.2.1 = some (tyJ3 k) := by decide +kernel
abbrev cJ3_checkIndex_8e157 : ByteArray := prog_17_method_11_code
def yJ3_checkIndex_8e157 : MethodName := ⟨RJ3, "checkIndex", "(IILjava/util/function/BiFunction;)I"⟩
def RL : String := "CrewPairerLaw"
abbrev cL_law : ByteArray := code
def yL_law : MethodName := ⟨RL, "law", "([I)Z"⟩
def wsL_law_r1 : List Cond := [Cond.classLink RL 7 RX8, Cond.instantiable RX8 11, Cond.initialized RX8, Cond.classLink RL 10 RX9, Cond.instantiable RX9 30, Cond.initialized RX9, Cond.methodLink RL 9 yX8_init, Cond.instanceMethod yX8_init, Cond.code yX8_init cX8_init 1 none, Cond.methodLink RX8 1 objectInit, Cond.instanceMethod objectInit, Cond.code objectInit ⟨#[0xb1]⟩ 1 none, Cond.classLink RX8 7 RX3, Cond.instantiable RX3 13, Cond.initialized RX3, Cond.fieldLink RX8 10 "CrewPairer" "plan" "LCrewPairer$Plan;", Cond.fieldLink RX8 16 "CrewPairer" "before" "LCrewPairer$Plan;", Cond.fieldLink RX8 19 "CrewPairer" "snapshot" "LCrewPairer$Plan;", Cond.fieldLink RX8 22 "CrewPairer" "saved" "Z", Cond.classLink RX8 26 RX1, Cond.instantiable RX1 3, Cond.initialized RX1, Cond.fieldLink RX8 29 "CrewPairer" "history" "LCrewPairer$History;", Cond.classLink RX8 33 RX6]
def wsL_law_r2 : List Cond := [Cond.instantiable RX6 14, Cond.initialized RX6, Cond.fieldLink RX8 38 "CrewPairer" "row" "LCrewPairer$Row;", Cond.classLink RX8 42 RX2, Cond.instantiable RX2 4, Cond.initialized RX2, Cond.fieldLink RX8 45 "CrewPairer" "offered" "LCrewPairer$Offer;", Cond.classLink RX8 49 RX4, Cond.instantiable RX4 5, Cond.initialized RX4, Cond.fieldLink RX8 52 "CrewPairer" "repairs" "LCrewPairer$Repairs;", Cond.classLink RX8 56 RX7, Cond.instantiable RX7 7, Cond.initialized RX7, Cond.fieldLink RX8 61 "CrewPairer" "search" "LCrewPairer$Search;", Cond.classLink RX8 65 RX5, Cond.instantiable RX5 2, Cond.initialized RX5, Cond.fieldLink RX8 68 "CrewPairer" "report" "LCrewPairer$Report;", Cond.classLink RX8 72 RX0, Cond.instantiable RX0 6, Cond.initialized RX0, Cond.fieldLink RX8 75 "CrewPairer" "commands" "LCrewPairer$Commands;", Cond.methodLink RX8 9 yX3_init]
def wsL_law_r3 : List Cond := [Cond.instanceMethod yX3_init, Cond.code yX3_init cX3_init 1 none, Cond.methodLink RX3 3 objectInit, Cond.arrayClass .int, Cond.fieldLink RX3 9 "CrewPairer$Plan" "from" "[I", Cond.fieldLink RX3 15 "CrewPairer$Plan" "to" "[I", Cond.fieldLink RX3 18 "CrewPairer$Plan" "departure" "[I", Cond.fieldLink RX3 21 "CrewPairer$Plan" "arrival" "[I", Cond.fieldLink RX3 24 "CrewPairer$Plan" "cancelled" "[I", Cond.fieldLink RX3 27 "CrewPairer$Plan" "order" "[I", Cond.fieldLink RX3 30 "CrewPairer$Plan" "bases" "[I", Cond.fieldLink RX3 33 "CrewPairer$Plan" "starts" "[I", Cond.fieldLink RX3 36 "CrewPairer$Plan" "ends" "[I", Cond.classLink RX3 39 "[[I", Cond.fieldLink RX3 41 "CrewPairer$Plan" "tasks" "[[I", Cond.fieldLink RX3 44 "CrewPairer$Plan" "rules" "[I", Cond.methodLink RX3 50 arraycopyName, Cond.native arraycopyName, Cond.static arraycopyName, Cond.initialized "java/lang/System", Cond.methodLink RX8 28 yX1_init, Cond.instanceMethod yX1_init, Cond.code yX1_init cX1_init 2 none, Cond.methodLink RX1 3 objectInit]
def wsL_law_r4 : List Cond := [Cond.classLink RX1 9 RX3, Cond.fieldLink RX1 11 "CrewPairer$History" "plans" "[LCrewPairer$Plan;", Cond.methodLink RX1 17 yX3_init, Cond.methodLink RX8 35 yX6_init, Cond.instanceMethod yX6_init, Cond.code yX6_init cX6_init 2 none, Cond.methodLink RX6 3 objectInit, Cond.fieldLink RX6 9 "CrewPairer$Row" "legs" "[I", Cond.arrayClass .boolean, Cond.fieldLink RX6 15 "CrewPairer$Row" "flown" "[Z", Cond.fieldLink RX6 19 "CrewPairer$Row" "gaps" "[I", Cond.fieldLink RX6 22 "CrewPairer$Row" "duties" "[I", Cond.fieldLink RX6 25 "CrewPairer$Row" "firsts" "[I", Cond.fieldLink RX6 28 "CrewPairer$Row" "lasts" "[I", Cond.fieldLink RX6 31 "CrewPairer$Row" "flownMinutes" "[I", Cond.fieldLink RX6 34 "CrewPairer$Row" "kinds" "[I", Cond.fieldLink RX6 37 "CrewPairer$Row" "places" "[I", Cond.fieldLink RX6 40 "CrewPairer$Row" "plan" "LCrewPairer$Plan;", Cond.instanceMethod yX2_init, Cond.code yX2_init cX2_init 1 none, Cond.methodLink RX2 3 objectInit, Cond.fieldLink RX2 9 "CrewPairer$Offer" "crew" "I", Cond.fieldLink RX2 15 "CrewPairer$Offer" "other" "I", Cond.instanceMethod yX4_init]
def wsL_law_r5 : List Cond := [Cond.code yX4_init cX4_init 1 none, Cond.methodLink RX4 3 objectInit, Cond.fieldLink RX4 9 "CrewPairer$Repairs" "crews" "[I", Cond.fieldLink RX4 15 "CrewPairer$Repairs" "legs" "[I", Cond.fieldLink RX4 18 "CrewPairer$Repairs" "flown" "[Z", Cond.fieldLink RX4 22 "CrewPairer$Repairs" "reserves" "[I", Cond.methodLink RX8 58 yX7_init, Cond.instanceMethod yX7_init, Cond.code yX7_init cX7_init 3 none, Cond.methodLink RX7 3 objectInit, Cond.fieldLink RX7 9 "CrewPairer$Search" "path" "[I", Cond.fieldLink RX7 15 "CrewPairer$Search" "best" "[I", Cond.fieldLink RX7 18 "CrewPairer$Search" "plan" "LCrewPairer$Plan;", Cond.fieldLink RX7 22 "CrewPairer$Search" "row" "LCrewPairer$Row;", Cond.instanceMethod yX5_init, Cond.code yX5_init cX5_init 1 none, Cond.methodLink RX5 3 objectInit, Cond.arrayClass .char, Cond.fieldLink RX5 9 "CrewPairer$Report" "text" "[C", Cond.instanceMethod yX0_init, Cond.code yX0_init cX0_init 1 none, Cond.methodLink RX0 3 objectInit, Cond.fieldLink RX0 9 "CrewPairer$Commands" "text" "[C", Cond.fieldLink RX0 15 "CrewPairer$Commands" "words" "[I"]
def wsL_law_r6 : List Cond := [Cond.fieldLink RX0 19 "CrewPairer$Commands" "numbers" "[I", Cond.methodLink RL 12 yX9_init, Cond.instanceMethod yX9_init, Cond.code yX9_init cX9_init 1 none, Cond.methodLink RX9 3 objectInit, Cond.fieldLink RX9 9 "CrewPairerModel" "s" "[I", Cond.fieldLink RX9 13 "CrewPairerModel" "saved" "[I", Cond.fieldLink RX9 16 "CrewPairerModel" "past" "[I", Cond.fieldLink RX9 19 "CrewPairerModel" "before" "[I", Cond.fieldLink RX9 22 "CrewPairerModel" "row" "[I", Cond.fieldLink RX9 25 "CrewPairerModel" "opens" "[I", Cond.fieldLink RX9 28 "CrewPairerModel" "passed" "[I", Cond.fieldLink RX9 31 "CrewPairerModel" "removed" "[I", Cond.fieldLink RX9 34 "CrewPairerModel" "way" "[I", Cond.fieldLink RX9 37 "CrewPairerModel" "best" "[I", Cond.fieldLink RX9 40 "CrewPairerModel" "written" "[C", Cond.fieldLink RX9 44 "CrewPairerModel" "text" "[C", Cond.fieldLink RX9 47 "CrewPairerModel" "numbers" "[I", Cond.fieldLink RX9 50 "CrewPairerModel" "FIRST" "[I", Cond.methodLink RX9 53 arraycopyName, Cond.methodLink RL 13 yX8_addLeg, Cond.instanceMethod yX8_addLeg, Cond.selects RX8 yX8_addLeg yX8_addLeg, Cond.code yX8_addLeg cX8_addLeg 5 (some .int)]
def wsL_law_r7 : List Cond := [Cond.methodLink RX8 79 yX3_copyFrom, Cond.instanceMethod yX3_copyFrom, Cond.selects RX3 yX3_copyFrom yX3_copyFrom, Cond.code yX3_copyFrom cX3_copyFrom 3 none, Cond.fieldLink RX3 56 "CrewPairer$Plan" "legCount" "I", Cond.fieldLink RX3 60 "CrewPairer$Plan" "crewCount" "I", Cond.methodLink RX8 82 yX8_putLeg, Cond.instanceMethod yX8_putLeg, Cond.selects RX8 yX8_putLeg yX8_putLeg, Cond.code yX8_putLeg cX8_putLeg 6 (some .int), Cond.fieldLink RX8 93 "CrewPairer$Plan" "legCount" "I", Cond.fieldLink RX8 104 "CrewPairer$Plan" "from" "[I", Cond.fieldLink RX8 108 "CrewPairer$Plan" "to" "[I", Cond.fieldLink RX8 111 "CrewPairer$Plan" "departure" "[I", Cond.fieldLink RX8 114 "CrewPairer$Plan" "arrival" "[I", Cond.fieldLink RX8 117 "CrewPairer$Plan" "cancelled" "[I", Cond.methodLink RX8 127 yX8_isIn, Cond.static yX8_isIn, Cond.code yX8_isIn cX8_isIn 3 (some .boolean), Cond.methodLink RX8 301 yX3_hasTwin, Cond.instanceMethod yX3_hasTwin, Cond.selects RX3 yX3_hasTwin yX3_hasTwin, Cond.code yX3_hasTwin cX3_hasTwin 6 (some .boolean), Cond.methodLink RX8 305 yX3_sortLegs]
def wsL_law_r8 : List Cond := [Cond.instanceMethod yX3_sortLegs, Cond.selects RX3 yX3_sortLegs yX3_sortLegs, Cond.code yX3_sortLegs cX3_sortLegs 3 none, Cond.methodLink RX8 86 yX8_kept, Cond.instanceMethod yX8_kept, Cond.selects RX8 yX8_kept yX8_kept, Cond.code yX8_kept cX8_kept 2 (some .int), Cond.methodLink RX8 298 yX1_remember, Cond.instanceMethod yX1_remember, Cond.selects RX1 yX1_remember yX1_remember, Cond.code yX1_remember cX1_remember 2 none, Cond.fieldLink RX1 18 "CrewPairer$History" "next" "I", Cond.fieldLink RX1 26 "CrewPairer$History" "count" "I", Cond.methodLink RX1 22 yX3_copyFrom, Cond.methodLink RL 17 yX9_addLeg, Cond.instanceMethod yX9_addLeg, Cond.selects RX9 yX9_addLeg yX9_addLeg, Cond.code yX9_addLeg cX9_addLeg 7 (some .int), Cond.methodLink RX9 79 Lib.Math.min.name, Cond.static Lib.Math.min.name, Cond.initialized "java/lang/Math", Cond.code Lib.Math.min.name Lib.Math.min.code 2 (some .int), Cond.methodLink RX9 59 yX9_in, Cond.static yX9_in]
def wsL_law_r9 : List Cond := [Cond.code yX9_in cX9_in 3 (some .boolean), Cond.methodLink RX9 84 yX9_isThere, Cond.instanceMethod yX9_isThere, Cond.selects RX9 yX9_isThere yX9_isThere, Cond.code yX9_isThere cX9_isThere 7 (some .boolean), Cond.methodLink RX9 63 yX9_of, Cond.instanceMethod yX9_of, Cond.selects RX9 yX9_of yX9_of, Cond.code yX9_of cX9_of 3 (some .int), Cond.methodLink RX9 88 yX9_change, Cond.instanceMethod yX9_change, Cond.selects RX9 yX9_change yX9_change, Cond.code yX9_change cX9_change 1 none, Cond.fieldLink RX9 71 "CrewPairerModel" "isQuiet" "Z", Cond.methodLink RX9 75 yX9_push, Cond.instanceMethod yX9_push, Cond.selects RX9 yX9_push yX9_push, Cond.code yX9_push cX9_push 2 none, Cond.fieldLink RX9 67 "CrewPairerModel" "pastMany" "I", Cond.methodLink RL 18 yX8_addCrew, Cond.instanceMethod yX8_addCrew, Cond.selects RX8 yX8_addCrew yX8_addCrew, Cond.code yX8_addCrew cX8_addCrew 2 (some .int), Cond.methodLink RX8 90 yX8_putCrew]
def wsL_law_r10 : List Cond := [Cond.instanceMethod yX8_putCrew, Cond.selects RX8 yX8_putCrew yX8_putCrew, Cond.code yX8_putCrew cX8_putCrew 3 (some .int), Cond.fieldLink RX8 97 "CrewPairer$Plan" "crewCount" "I", Cond.fieldLink RX8 308 "CrewPairer$Plan" "bases" "[I", Cond.methodLink RL 22 yX9_addCrew, Cond.instanceMethod yX9_addCrew, Cond.selects RX9 yX9_addCrew yX9_addCrew, Cond.code yX9_addCrew cX9_addCrew 4 (some .int), Cond.methodLink RX9 91 yX9_crewAt, Cond.static yX9_crewAt, Cond.code yX9_crewAt cX9_crewAt 2 (some .int), Cond.methodLink RL 23 yX8_legCount, Cond.instanceMethod yX8_legCount, Cond.selects RX8 yX8_legCount yX8_legCount, Cond.code yX8_legCount cX8_legCount 1 (some .int), Cond.methodLink RL 27 yX9_legCount, Cond.instanceMethod yX9_legCount, Cond.selects RX9 yX9_legCount yX9_legCount, Cond.code yX9_legCount cX9_legCount 1 (some .int), Cond.methodLink RL 28 yX8_crewCount, Cond.instanceMethod yX8_crewCount, Cond.selects RX8 yX8_crewCount yX8_crewCount, Cond.code yX8_crewCount cX8_crewCount 1 (some .int)]
def wsL_law_r11 : List Cond := [Cond.methodLink RL 31 yX9_crewCount, Cond.instanceMethod yX9_crewCount, Cond.selects RX9 yX9_crewCount yX9_crewCount, Cond.code yX9_crewCount cX9_crewCount 1 (some .int), Cond.methodLink RL 32 yX8_leg, Cond.instanceMethod yX8_leg, Cond.selects RX8 yX8_leg yX8_leg, Cond.code yX8_leg cX8_leg 3 (some .int), Cond.methodLink RX8 100 yX3_hasLeg, Cond.instanceMethod yX3_hasLeg, Cond.selects RX3 yX3_hasLeg yX3_hasLeg, Cond.code yX3_hasLeg cX3_hasLeg 2 (some .boolean), Cond.methodLink RX8 120 yX3_flyerOf, Cond.instanceMethod yX3_flyerOf, Cond.selects RX3 yX3_flyerOf yX3_flyerOf, Cond.code yX3_flyerOf cX3_flyerOf 3 (some .int), Cond.methodLink RL 36 yX9_leg, Cond.instanceMethod yX9_leg, Cond.selects RX9 yX9_leg yX9_leg, Cond.code yX9_leg cX9_leg 3 (some .int), Cond.methodLink RX9 100 yX9_isLeg, Cond.instanceMethod yX9_isLeg, Cond.selects RX9 yX9_isLeg yX9_isLeg, Cond.code yX9_isLeg cX9_isLeg 2 (some .boolean)]
def wsL_law_r12 : List Cond := [Cond.methodLink RX9 104 yX9_flierOf, Cond.instanceMethod yX9_flierOf, Cond.selects RX9 yX9_flierOf yX9_flierOf, Cond.code yX9_flierOf cX9_flierOf 4 (some .int), Cond.methodLink RX9 97 yX9_placeIn, Cond.instanceMethod yX9_placeIn, Cond.selects RX9 yX9_placeIn yX9_placeIn, Cond.code yX9_placeIn cX9_placeIn 4 (some .int), Cond.methodLink RX9 94 yX9_ofCrew, Cond.instanceMethod yX9_ofCrew, Cond.selects RX9 yX9_ofCrew yX9_ofCrew, Cond.code yX9_ofCrew cX9_ofCrew 3 (some .int), Cond.methodLink RL 37 yX8_setRule, Cond.instanceMethod yX8_setRule, Cond.selects RX8 yX8_setRule yX8_setRule, Cond.code yX8_setRule cX8_setRule 3 (some .int), Cond.methodLink RX8 123 yX8_changeRule, Cond.instanceMethod yX8_changeRule, Cond.selects RX8 yX8_changeRule yX8_changeRule, Cond.code yX8_changeRule cX8_changeRule 4 (some .int), Cond.fieldLink RX8 311 "CrewPairer" "RULE_LEAST" "[I", Cond.fieldLink RX8 314 "CrewPairer" "RULE_MOST" "[I", Cond.fieldLink RX8 131 "CrewPairer$Plan" "rules" "[I", Cond.methodLink RL 40 yX9_setRule]
def wsL_law_r13 : List Cond := [Cond.instanceMethod yX9_setRule, Cond.selects RX9 yX9_setRule yX9_setRule, Cond.code yX9_setRule cX9_setRule 4 (some .int), Cond.fieldLink RX9 108 "CrewPairerModel" "LEAST" "[I", Cond.fieldLink RX9 111 "CrewPairerModel" "MOST" "[I", Cond.methodLink RL 41 yX8_rule, Cond.instanceMethod yX8_rule, Cond.selects RX8 yX8_rule yX8_rule, Cond.code yX8_rule cX8_rule 2 (some .int), Cond.methodLink RL 44 yX9_rule, Cond.instanceMethod yX9_rule, Cond.selects RX9 yX9_rule yX9_rule, Cond.code yX9_rule cX9_rule 2 (some .int), Cond.methodLink RL 45 yX8_fly, Cond.instanceMethod yX8_fly, Cond.selects RX8 yX8_fly yX8_fly, Cond.code yX8_fly cX8_fly 3 (some .int), Cond.methodLink RX8 134 yX8_take, Cond.instanceMethod yX8_take, Cond.selects RX8 yX8_take yX8_take, Cond.code yX8_take cX8_take 5 (some .int), Cond.fieldLink RX8 317 "CrewPairer$Plan" "tasks" "[[I", Cond.methodLink RX8 141 yX3_hasCrew, Cond.instanceMethod yX3_hasCrew]
def wsL_law_r14 : List Cond := [Cond.selects RX3 yX3_hasCrew yX3_hasCrew, Cond.code yX3_hasCrew cX3_hasCrew 2 (some .boolean), Cond.methodLink RX8 144 yX8_reasonAgainst, Cond.instanceMethod yX8_reasonAgainst, Cond.selects RX8 yX8_reasonAgainst yX8_reasonAgainst, Cond.code yX8_reasonAgainst cX8_reasonAgainst 4 (some .int), Cond.fieldLink RX8 185 "CrewPairer$Row" "kinds" "[I", Cond.methodLink RX8 150 yX6_load, Cond.instanceMethod yX6_load, Cond.selects RX6 yX6_load yX6_load, Cond.code yX6_load cX6_load 5 none, Cond.fieldLink RX6 44 "CrewPairer$Plan" "bases" "[I", Cond.fieldLink RX6 49 "CrewPairer$Row" "base" "I", Cond.fieldLink RX6 53 "CrewPairer$Row" "count" "I", Cond.fieldLink RX6 56 "CrewPairer$Row" "dutyCount" "I", Cond.fieldLink RX6 59 "CrewPairer$Plan" "legCount" "I", Cond.fieldLink RX6 62 "CrewPairer$Plan" "order" "[I", Cond.fieldLink RX6 65 "CrewPairer$Plan" "tasks" "[[I", Cond.methodLink RX6 69 yX6_append, Cond.instanceMethod yX6_append, Cond.selects RX6 yX6_append yX6_append, Cond.code yX6_append cX6_append 5 none, Cond.fieldLink RX6 73 "CrewPairer$Plan" "departure" "[I", Cond.fieldLink RX6 76 "CrewPairer$Plan" "arrival" "[I"]
def wsL_law_r15 : List Cond := [Cond.fieldLink RX6 79 "CrewPairer$Plan" "rules" "[I", Cond.methodLink RX8 182 yX6_findViolations, Cond.instanceMethod yX6_findViolations, Cond.selects RX6 yX6_findViolations yX6_findViolations, Cond.code yX6_findViolations cX6_findViolations 5 (some .int), Cond.fieldLink RX6 102 "CrewPairer$Row" "found" "I", Cond.methodLink RX6 105 yX6_overfillsWindow, Cond.instanceMethod yX6_overfillsWindow, Cond.selects RX6 yX6_overfillsWindow yX6_overfillsWindow, Cond.code yX6_overfillsWindow cX6_overfillsWindow 2 (some .boolean), Cond.methodLink RX6 98 yX6_flownWithin, Cond.instanceMethod yX6_flownWithin, Cond.selects RX6 yX6_flownWithin yX6_flownWithin, Cond.code yX6_flownWithin cX6_flownWithin 8 (some .int), Cond.methodLink RX6 109 yX6_breaks, Cond.instanceMethod yX6_breaks, Cond.selects RX6 yX6_breaks yX6_breaks, Cond.code yX6_breaks cX6_breaks 5 (some .boolean), Cond.fieldLink RX6 86 "CrewPairer$Plan" "from" "[I", Cond.fieldLink RX6 89 "CrewPairer$Plan" "to" "[I", Cond.methodLink RX6 92 yX6_spanOf, Cond.instanceMethod yX6_spanOf, Cond.selects RX6 yX6_spanOf yX6_spanOf, Cond.code yX6_spanOf cX6_spanOf 2 (some .int)]
def wsL_law_r16 : List Cond := [Cond.methodLink RX6 95 yX6_sizeOf, Cond.instanceMethod yX6_sizeOf, Cond.selects RX6 yX6_sizeOf yX6_sizeOf, Cond.code yX6_sizeOf cX6_sizeOf 2 (some .int), Cond.methodLink RX8 321 yX6_positionOf, Cond.instanceMethod yX6_positionOf, Cond.selects RX6 yX6_positionOf yX6_positionOf, Cond.code yX6_positionOf cX6_positionOf 3 (some .int), Cond.methodLink RL 48 yX9_fly, Cond.instanceMethod yX9_fly, Cond.selects RX9 yX9_fly yX9_fly, Cond.code yX9_fly cX9_fly 3 (some .int), Cond.methodLink RX9 183 yX9_assign, Cond.instanceMethod yX9_assign, Cond.selects RX9 yX9_assign yX9_assign, Cond.code yX9_assign cX9_assign 5 (some .int), Cond.methodLink RX9 174 yX9_isCrew, Cond.instanceMethod yX9_isCrew, Cond.selects RX9 yX9_isCrew yX9_isCrew, Cond.code yX9_isCrew cX9_isCrew 2 (some .boolean), Cond.methodLink RX9 177 yX9_hinders_, Cond.instanceMethod yX9_hinders_, Cond.selects RX9 yX9_hinders_ yX9_hinders_, Cond.code yX9_hinders_ cX9_hinders_ 4 (some .int)]
def wsL_law_r17 : List Cond := [Cond.methodLink RX9 165 yX9_take, Cond.instanceMethod yX9_take, Cond.selects RX9 yX9_take yX9_take, Cond.code yX9_take cX9_take 2 none, Cond.fieldLink RX9 114 "CrewPairerModel" "many" "I", Cond.fieldLink RX9 117 "CrewPairerModel" "base" "I", Cond.methodLink RX9 168 yX9_hinders, Cond.instanceMethod yX9_hinders, Cond.selects RX9 yX9_hinders yX9_hinders, Cond.code yX9_hinders cX9_hinders 5 (some .int), Cond.methodLink RX9 120 yX9_legAt, Cond.instanceMethod yX9_legAt, Cond.selects RX9 yX9_legAt yX9_legAt, Cond.code yX9_legAt cX9_legAt 2 (some .int), Cond.methodLink RX9 157 yX9_put, Cond.instanceMethod yX9_put, Cond.selects RX9 yX9_put yX9_put, Cond.code yX9_put cX9_put 4 (some .int), Cond.methodLink RX9 154 yX9_violationAt, Cond.instanceMethod yX9_violationAt, Cond.selects RX9 yX9_violationAt yX9_violationAt, Cond.code yX9_violationAt cX9_violationAt 5 (some .int), Cond.methodLink RX9 150 yX9_violates, Cond.instanceMethod yX9_violates]
def wsL_law_r18 : List Cond := [Cond.selects RX9 yX9_violates yX9_violates, Cond.code yX9_violates cX9_violates 3 (some .boolean), Cond.methodLink RX9 123 yX9_gapBefore, Cond.instanceMethod yX9_gapBefore, Cond.selects RX9 yX9_gapBefore yX9_gapBefore, Cond.code yX9_gapBefore cX9_gapBefore 2 (some .int), Cond.methodLink RX9 126 yX9_beginsDuty, Cond.instanceMethod yX9_beginsDuty, Cond.selects RX9 yX9_beginsDuty yX9_beginsDuty, Cond.code yX9_beginsDuty cX9_beginsDuty 2 (some .boolean), Cond.methodLink RX9 141 yX9_dutyMinutes, Cond.instanceMethod yX9_dutyMinutes, Cond.selects RX9 yX9_dutyMinutes yX9_dutyMinutes, Cond.code yX9_dutyMinutes cX9_dutyMinutes 2 (some .int), Cond.methodLink RX9 129 yX9_dutyEnd, Cond.instanceMethod yX9_dutyEnd, Cond.selects RX9 yX9_dutyEnd yX9_dutyEnd, Cond.code yX9_dutyEnd cX9_dutyEnd 3 (some .int), Cond.methodLink RX9 144 yX9_flownFrom, Cond.instanceMethod yX9_flownFrom, Cond.selects RX9 yX9_flownFrom yX9_flownFrom, Cond.code yX9_flownFrom cX9_flownFrom 5 (some .int), Cond.methodLink RX9 132 yX9_isFlown, Cond.instanceMethod yX9_isFlown]
def wsL_law_r19 : List Cond := [Cond.selects RX9 yX9_isFlown yX9_isFlown, Cond.code yX9_isFlown cX9_isFlown 2 (some .boolean), Cond.methodLink RX9 135 yX9_lengthOf, Cond.instanceMethod yX9_lengthOf, Cond.selects RX9 yX9_lengthOf yX9_lengthOf, Cond.code yX9_lengthOf cX9_lengthOf 2 (some .int), Cond.methodLink RX9 147 yX9_flownWithin, Cond.instanceMethod yX9_flownWithin, Cond.selects RX9 yX9_flownWithin yX9_flownWithin, Cond.code yX9_flownWithin cX9_flownWithin 7 (some .int), Cond.methodLink RX9 138 Lib.Math.max.name, Cond.static Lib.Math.max.name, Cond.code Lib.Math.max.name Lib.Math.max.code 2 (some .int), Cond.methodLink RX9 161 yX9_takeOut, Cond.instanceMethod yX9_takeOut, Cond.selects RX9 yX9_takeOut yX9_takeOut, Cond.code yX9_takeOut cX9_takeOut 3 none, Cond.methodLink RX9 180 yX9_enter, Cond.instanceMethod yX9_enter, Cond.selects RX9 yX9_enter yX9_enter, Cond.code yX9_enter cX9_enter 5 (some .int), Cond.methodLink RX9 171 yX9_give, Cond.instanceMethod yX9_give, Cond.selects RX9 yX9_give yX9_give]
def wsL_law_r20 : List Cond := [Cond.code yX9_give cX9_give 2 none, Cond.methodLink RL 49 yX8_ride, Cond.instanceMethod yX8_ride, Cond.selects RX8 yX8_ride yX8_ride, Cond.code yX8_ride cX8_ride 3 (some .int), Cond.methodLink RL 52 yX9_ride, Cond.instanceMethod yX9_ride, Cond.selects RX9 yX9_ride yX9_ride, Cond.code yX9_ride cX9_ride 3 (some .int), Cond.methodLink RL 53 yX8_drop, Cond.instanceMethod yX8_drop, Cond.selects RX8 yX8_drop yX8_drop, Cond.code yX8_drop cX8_drop 3 (some .int), Cond.methodLink RX8 138 yX8_leave, Cond.instanceMethod yX8_leave, Cond.selects RX8 yX8_leave yX8_leave, Cond.code yX8_leave cX8_leave 3 (some .int), Cond.fieldLink RX8 154 "CrewPairer$Row" "count" "I", Cond.methodLink RL 56 yX9_drop, Cond.instanceMethod yX9_drop, Cond.selects RX9 yX9_drop yX9_drop, Cond.code yX9_drop cX9_drop 4 (some .int), Cond.methodLink RL 57 yX8_reason, Cond.instanceMethod yX8_reason]
def wsL_law_r21 : List Cond := [Cond.selects RX8 yX8_reason yX8_reason, Cond.code yX8_reason cX8_reason 4 (some .int), Cond.methodLink RL 61 yX9_reason, Cond.instanceMethod yX9_reason, Cond.selects RX9 yX9_reason yX9_reason, Cond.code yX9_reason cX9_reason 4 (some .int), Cond.methodLink RL 62 yX8_place, Cond.instanceMethod yX8_place, Cond.selects RX8 yX8_place yX8_place, Cond.code yX8_place cX8_place 5 (some .int), Cond.fieldLink RX8 147 "CrewPairer$Row" "places" "[I", Cond.methodLink RL 65 yX9_place, Cond.instanceMethod yX9_place, Cond.selects RX9 yX9_place yX9_place, Cond.code yX9_place cX9_place 5 (some .int), Cond.methodLink RL 66 yX8_itemCount, Cond.instanceMethod yX8_itemCount, Cond.selects RX8 yX8_itemCount yX8_itemCount, Cond.code yX8_itemCount cX8_itemCount 2 (some .int), Cond.methodLink RL 69 yX9_itemCount, Cond.instanceMethod yX9_itemCount, Cond.selects RX9 yX9_itemCount yX9_itemCount, Cond.code yX9_itemCount cX9_itemCount 2 (some .int), Cond.methodLink RL 70 yX8_item]
def wsL_law_r22 : List Cond := [Cond.instanceMethod yX8_item, Cond.selects RX8 yX8_item yX8_item, Cond.code yX8_item cX8_item 4 (some .int), Cond.fieldLink RX8 157 "CrewPairer$Row" "legs" "[I", Cond.fieldLink RX8 160 "CrewPairer$Row" "flown" "[Z", Cond.fieldLink RX8 164 "CrewPairer$Row" "duties" "[I", Cond.methodLink RL 74 yX9_item, Cond.instanceMethod yX9_item, Cond.selects RX9 yX9_item yX9_item, Cond.code yX9_item cX9_item 4 (some .int), Cond.methodLink RX9 186 yX9_dutyOf, Cond.instanceMethod yX9_dutyOf, Cond.selects RX9 yX9_dutyOf yX9_dutyOf, Cond.code yX9_dutyOf cX9_dutyOf 4 (some .int), Cond.methodLink RL 75 yX8_dutyCount, Cond.instanceMethod yX8_dutyCount, Cond.selects RX8 yX8_dutyCount yX8_dutyCount, Cond.code yX8_dutyCount cX8_dutyCount 2 (some .int), Cond.fieldLink RX8 167 "CrewPairer$Row" "dutyCount" "I", Cond.methodLink RL 78 yX9_dutyCount, Cond.instanceMethod yX9_dutyCount, Cond.selects RX9 yX9_dutyCount yX9_dutyCount, Cond.code yX9_dutyCount cX9_dutyCount 2 (some .int), Cond.methodLink RL 79 yX8_duty]
def wsL_law_r23 : List Cond := [Cond.instanceMethod yX8_duty, Cond.selects RX8 yX8_duty yX8_duty, Cond.code yX8_duty cX8_duty 4 (some .int), Cond.fieldLink RX8 173 "CrewPairer$Row" "flownMinutes" "[I", Cond.fieldLink RX8 179 "CrewPairer$Row" "firsts" "[I", Cond.methodLink RX8 170 yX6_spanOf, Cond.methodLink RX8 176 yX6_sizeOf, Cond.methodLink RL 82 yX9_duty, Cond.instanceMethod yX9_duty, Cond.selects RX9 yX9_duty yX9_duty, Cond.code yX9_duty cX9_duty 6 (some .int), Cond.methodLink RL 83 yX8_violationCount, Cond.instanceMethod yX8_violationCount, Cond.selects RX8 yX8_violationCount yX8_violationCount, Cond.code yX8_violationCount cX8_violationCount 2 (some .int), Cond.methodLink RL 86 yX9_violationCount, Cond.instanceMethod yX9_violationCount, Cond.selects RX9 yX9_violationCount yX9_violationCount, Cond.code yX9_violationCount cX9_violationCount 2 (some .int), Cond.methodLink RX9 189 yX9_violations, Cond.instanceMethod yX9_violations, Cond.selects RX9 yX9_violations yX9_violations, Cond.code yX9_violations cX9_violations 2 (some .int), Cond.methodLink RL 87 yX8_violation]
def wsL_law_r24 : List Cond := [Cond.instanceMethod yX8_violation, Cond.selects RX8 yX8_violation yX8_violation, Cond.code yX8_violation cX8_violation 5 (some .int), Cond.methodLink RL 90 yX9_violation, Cond.instanceMethod yX9_violation, Cond.selects RX9 yX9_violation yX9_violation, Cond.code yX9_violation cX9_violation 5 (some .int), Cond.methodLink RL 91 yX8_minutes, Cond.instanceMethod yX8_minutes, Cond.selects RX8 yX8_minutes yX8_minutes, Cond.code yX8_minutes cX8_minutes 2 (some .int), Cond.methodLink RX8 188 yX3_minutesOf, Cond.instanceMethod yX3_minutesOf, Cond.selects RX3 yX3_minutesOf yX3_minutesOf, Cond.code yX3_minutesOf cX3_minutesOf 4 (some .int), Cond.methodLink RX3 67 yX3_lengthOf, Cond.instanceMethod yX3_lengthOf, Cond.selects RX3 yX3_lengthOf yX3_lengthOf, Cond.code yX3_lengthOf cX3_lengthOf 2 (some .int), Cond.methodLink RL 94 yX9_minutes, Cond.instanceMethod yX9_minutes, Cond.selects RX9 yX9_minutes yX9_minutes, Cond.code yX9_minutes cX9_minutes 2 (some .int), Cond.methodLink RX9 193 yX9_minutesOf]
def wsL_law_r25 : List Cond := [Cond.instanceMethod yX9_minutesOf, Cond.selects RX9 yX9_minutesOf yX9_minutesOf, Cond.code yX9_minutesOf cX9_minutesOf 2 (some .int), Cond.methodLink RL 95 yX8_within, Cond.instanceMethod yX8_within, Cond.selects RX8 yX8_within yX8_within, Cond.code yX8_within cX8_within 4 (some .int), Cond.methodLink RX8 191 yX6_flownWithin, Cond.methodLink RL 98 yX9_within, Cond.instanceMethod yX9_within, Cond.selects RX9 yX9_within yX9_within, Cond.code yX9_within cX9_within 4 (some .int), Cond.methodLink RL 99 yX8_home, Cond.instanceMethod yX8_home, Cond.selects RX8 yX8_home yX8_home, Cond.code yX8_home cX8_home 2 (some .int), Cond.methodLink RX8 194 yX6_isHome, Cond.instanceMethod yX6_isHome, Cond.selects RX6 yX6_isHome yX6_isHome, Cond.code yX6_isHome cX6_isHome 1 (some .boolean), Cond.methodLink RL 102 yX9_home, Cond.instanceMethod yX9_home, Cond.selects RX9 yX9_home yX9_home, Cond.code yX9_home cX9_home 2 (some .int)]
def wsL_law_r26 : List Cond := [Cond.methodLink RX9 196 yX9_isHome, Cond.instanceMethod yX9_isHome, Cond.selects RX9 yX9_isHome yX9_isHome, Cond.code yX9_isHome cX9_isHome 1 (some .boolean), Cond.methodLink RL 103 yX8_pairings, Cond.instanceMethod yX8_pairings, Cond.selects RX8 yX8_pairings yX8_pairings, Cond.code yX8_pairings cX8_pairings 2 (some .int), Cond.methodLink RX8 198 yX6_pairingCount, Cond.instanceMethod yX6_pairingCount, Cond.selects RX6 yX6_pairingCount yX6_pairingCount, Cond.code yX6_pairingCount cX6_pairingCount 3 (some .int), Cond.methodLink RX6 113 yX6_endsAtBase, Cond.instanceMethod yX6_endsAtBase, Cond.selects RX6 yX6_endsAtBase yX6_endsAtBase, Cond.code yX6_endsAtBase cX6_endsAtBase 2 (some .boolean), Cond.methodLink RL 106 yX9_pairings, Cond.instanceMethod yX9_pairings, Cond.selects RX9 yX9_pairings yX9_pairings, Cond.code yX9_pairings cX9_pairings 4 (some .int), Cond.methodLink RL 107 yX8_cost, Cond.instanceMethod yX8_cost, Cond.selects RX8 yX8_cost yX8_cost, Cond.code yX8_cost cX8_cost 5 (some .int)]
def wsL_law_r27 : List Cond := [Cond.methodLink RX8 202 yX8_costOf, Cond.instanceMethod yX8_costOf, Cond.selects RX8 yX8_costOf yX8_costOf, Cond.code yX8_costOf cX8_costOf 4 (some .int), Cond.methodLink RX8 324 yX6_rideMinutes, Cond.instanceMethod yX6_rideMinutes, Cond.selects RX6 yX6_rideMinutes yX6_rideMinutes, Cond.code yX6_rideMinutes cX6_rideMinutes 3 (some .int), Cond.methodLink RX6 82 yX3_lengthOf, Cond.methodLink RX8 327 yX6_nightCount, Cond.instanceMethod yX6_nightCount, Cond.selects RX6 yX6_nightCount yX6_nightCount, Cond.code yX6_nightCount cX6_nightCount 3 (some .int), Cond.methodLink RL 110 yX9_cost, Cond.instanceMethod yX9_cost, Cond.selects RX9 yX9_cost yX9_cost, Cond.code yX9_cost cX9_cost 5 (some .int), Cond.methodLink RX9 200 yX9_costOf, Cond.instanceMethod yX9_costOf, Cond.selects RX9 yX9_costOf yX9_costOf, Cond.code yX9_costOf cX9_costOf 6 (some .int), Cond.methodLink RL 111 yX8_openCount, Cond.instanceMethod yX8_openCount, Cond.selects RX8 yX8_openCount yX8_openCount]
def wsL_law_r28 : List Cond := [Cond.code yX8_openCount cX8_openCount 3 (some .int), Cond.methodLink RX8 205 yX3_isOpen, Cond.instanceMethod yX3_isOpen, Cond.selects RX3 yX3_isOpen yX3_isOpen, Cond.code yX3_isOpen cX3_isOpen 2 (some .boolean), Cond.methodLink RX3 63 yX3_flyerOf, Cond.methodLink RL 114 yX9_openCount, Cond.instanceMethod yX9_openCount, Cond.selects RX9 yX9_openCount yX9_openCount, Cond.code yX9_openCount cX9_openCount 1 (some .int), Cond.fieldLink RX9 203 "CrewPairerModel" "openMany" "I", Cond.methodLink RX9 209 yX9_findOpen, Cond.instanceMethod yX9_findOpen, Cond.selects RX9 yX9_findOpen yX9_findOpen, Cond.code yX9_findOpen cX9_findOpen 3 none, Cond.methodLink RX9 206 yX9_isOpen, Cond.instanceMethod yX9_isOpen, Cond.selects RX9 yX9_isOpen yX9_isOpen, Cond.code yX9_isOpen cX9_isOpen 2 (some .boolean), Cond.methodLink RL 115 yX8_open, Cond.instanceMethod yX8_open, Cond.selects RX8 yX8_open yX8_open, Cond.code yX8_open cX8_open 5 (some .int), Cond.fieldLink RX8 208 "CrewPairer$Plan" "order" "[I"]
def wsL_law_r29 : List Cond := [Cond.methodLink RL 118 yX9_open, Cond.instanceMethod yX9_open, Cond.selects RX9 yX9_open yX9_open, Cond.code yX9_open cX9_open 2 (some .int), Cond.methodLink RL 119 yX8_delay, Cond.instanceMethod yX8_delay, Cond.selects RX8 yX8_delay yX8_delay, Cond.code yX8_delay cX8_delay 3 (some .int), Cond.methodLink RX8 211 yX8_shift, Cond.instanceMethod yX8_shift, Cond.selects RX8 yX8_shift yX8_shift, Cond.code yX8_shift cX8_shift 7 (some .int), Cond.methodLink RL 122 yX9_delay, Cond.instanceMethod yX9_delay, Cond.selects RX9 yX9_delay yX9_delay, Cond.code yX9_delay cX9_delay 6 (some .int), Cond.methodLink RX9 212 yX9_reorder, Cond.instanceMethod yX9_reorder, Cond.selects RX9 yX9_reorder yX9_reorder, Cond.code yX9_reorder cX9_reorder 6 none, Cond.methodLink RL 123 yX8_cancel, Cond.instanceMethod yX8_cancel, Cond.selects RX8 yX8_cancel yX8_cancel, Cond.code yX8_cancel cX8_cancel 2 (some .int)]
def wsL_law_r30 : List Cond := [Cond.methodLink RX8 214 yX8_strike, Cond.instanceMethod yX8_strike, Cond.selects RX8 yX8_strike yX8_strike, Cond.code yX8_strike cX8_strike 4 (some .int), Cond.methodLink RL 126 yX9_cancel, Cond.instanceMethod yX9_cancel, Cond.selects RX9 yX9_cancel yX9_cancel, Cond.code yX9_cancel cX9_cancel 5 (some .int), Cond.methodLink RL 127 yX8_setReserve, Cond.instanceMethod yX8_setReserve, Cond.selects RX8 yX8_setReserve yX8_setReserve, Cond.code yX8_setReserve cX8_setReserve 4 (some .int), Cond.methodLink RX8 217 yX8_changeReserve, Cond.instanceMethod yX8_changeReserve, Cond.selects RX8 yX8_changeReserve yX8_changeReserve, Cond.code yX8_changeReserve cX8_changeReserve 5 (some .int), Cond.fieldLink RX8 223 "CrewPairer$Plan" "starts" "[I", Cond.fieldLink RX8 226 "CrewPairer$Plan" "ends" "[I", Cond.methodLink RX8 220 yX3_isReserve, Cond.instanceMethod yX3_isReserve, Cond.selects RX3 yX3_isReserve yX3_isReserve, Cond.code yX3_isReserve cX3_isReserve 2 (some .boolean), Cond.methodLink RL 130 yX9_setReserve, Cond.instanceMethod yX9_setReserve]
def wsL_law_r31 : List Cond := [Cond.selects RX9 yX9_setReserve yX9_setReserve, Cond.code yX9_setReserve cX9_setReserve 5 (some .int), Cond.methodLink RX9 215 yX9_isReserve, Cond.instanceMethod yX9_isReserve, Cond.selects RX9 yX9_isReserve yX9_isReserve, Cond.code yX9_isReserve cX9_isReserve 2 (some .boolean), Cond.methodLink RL 131 yX8_reserve, Cond.instanceMethod yX8_reserve, Cond.selects RX8 yX8_reserve yX8_reserve, Cond.code yX8_reserve cX8_reserve 3 (some .int), Cond.methodLink RL 134 yX9_reserve, Cond.instanceMethod yX9_reserve, Cond.selects RX9 yX9_reserve yX9_reserve, Cond.code yX9_reserve cX9_reserve 3 (some .int), Cond.methodLink RL 135 yX8_called, Cond.instanceMethod yX8_called, Cond.selects RX8 yX8_called yX8_called, Cond.code yX8_called cX8_called 2 (some .int), Cond.methodLink RX8 229 yX8_reserveFor, Cond.instanceMethod yX8_reserveFor, Cond.selects RX8 yX8_reserveFor yX8_reserveFor, Cond.code yX8_reserveFor cX8_reserveFor 6 (some .int), Cond.methodLink RX8 330 yX3_isOnCall, Cond.instanceMethod yX3_isOnCall]
def wsL_law_r32 : List Cond := [Cond.selects RX3 yX3_isOnCall yX3_isOnCall, Cond.code yX3_isOnCall cX3_isOnCall 3 (some .boolean), Cond.methodLink RX3 70 yX3_isReserve, Cond.methodLink RL 138 yX9_called, Cond.instanceMethod yX9_called, Cond.selects RX9 yX9_called yX9_called, Cond.code yX9_called cX9_called 2 (some .int), Cond.methodLink RX9 218 yX9_calledFor, Cond.instanceMethod yX9_calledFor, Cond.selects RX9 yX9_calledFor yX9_calledFor, Cond.code yX9_calledFor cX9_calledFor 8 (some .int), Cond.methodLink RL 139 yX8_pair, Cond.instanceMethod yX8_pair, Cond.selects RX8 yX8_pair yX8_pair, Cond.code yX8_pair cX8_pair 1 (some .int), Cond.methodLink RX8 232 yX8_pairOpenLegs, Cond.instanceMethod yX8_pairOpenLegs, Cond.selects RX8 yX8_pairOpenLegs yX8_pairOpenLegs, Cond.code yX8_pairOpenLegs cX8_pairOpenLegs 4 (some .int), Cond.fieldLink RX8 238 "CrewPairer$Offer" "crew" "I", Cond.fieldLink RX8 241 "CrewPairer$Offer" "other" "I", Cond.methodLink RX8 235 yX8_findOffer, Cond.instanceMethod yX8_findOffer, Cond.selects RX8 yX8_findOffer yX8_findOffer]
def wsL_law_r33 : List Cond := [Cond.code yX8_findOffer cX8_findOffer 7 none, Cond.methodLink RX8 334 yX2_isWorseThan, Cond.instanceMethod yX2_isWorseThan, Cond.selects RX2 yX2_isWorseThan yX2_isWorseThan, Cond.code yX2_isWorseThan cX2_isWorseThan 3 (some .boolean), Cond.fieldLink RX2 18 "CrewPairer$Offer" "price" "I", Cond.fieldLink RX2 21 "CrewPairer$Offer" "minutes" "I", Cond.methodLink RX8 337 yX2_set, Cond.instanceMethod yX2_set, Cond.selects RX2 yX2_set yX2_set, Cond.code yX2_set cX2_set 5 none, Cond.methodLink RX8 341 yX3_lengthOf, Cond.methodLink RL 142 yX9_pair, Cond.instanceMethod yX9_pair, Cond.selects RX9 yX9_pair yX9_pair, Cond.code yX9_pair cX9_pair 5 (some .int), Cond.fieldLink RX9 221 "CrewPairerModel" "offerCrew" "I", Cond.fieldLink RX9 230 "CrewPairerModel" "offerLeg" "I", Cond.methodLink RX9 240 yX9_findOffer, Cond.instanceMethod yX9_findOffer, Cond.selects RX9 yX9_findOffer yX9_findOffer, Cond.code yX9_findOffer cX9_findOffer 4 none, Cond.methodLink RX9 233 yX9_consider, Cond.instanceMethod yX9_consider]
def wsL_law_r34 : List Cond := [Cond.selects RX9 yX9_consider yX9_consider, Cond.code yX9_consider cX9_consider 6 none, Cond.fieldLink RX9 224 "CrewPairerModel" "offerPrice" "I", Cond.fieldLink RX9 227 "CrewPairerModel" "offerMinutes" "I", Cond.methodLink RX9 237 yX9_isWay, Cond.instanceMethod yX9_isWay, Cond.selects RX9 yX9_isWay yX9_isWay, Cond.code yX9_isWay cX9_isWay 5 (some .boolean), Cond.methodLink RL 143 yX8_offer, Cond.instanceMethod yX8_offer, Cond.selects RX8 yX8_offer yX8_offer, Cond.code yX8_offer cX8_offer 3 (some .int), Cond.fieldLink RX8 244 "CrewPairer$Offer" "price" "I", Cond.methodLink RL 146 yX9_offer, Cond.instanceMethod yX9_offer, Cond.selects RX9 yX9_offer yX9_offer, Cond.code yX9_offer cX9_offer 3 (some .int), Cond.methodLink RL 147 yX8_repair, Cond.instanceMethod yX8_repair, Cond.selects RX8 yX8_repair yX8_repair, Cond.code yX8_repair cX8_repair 1 (some .int), Cond.methodLink RX8 247 yX8_repairRows, Cond.instanceMethod yX8_repairRows, Cond.selects RX8 yX8_repairRows yX8_repairRows]
def wsL_law_r35 : List Cond := [Cond.code yX8_repairRows cX8_repairRows 5 (some .int), Cond.fieldLink RX8 250 "CrewPairer$Repairs" "count" "I", Cond.fieldLink RX8 256 "CrewPairer$Repairs" "reserves" "[I", Cond.methodLink RX8 344 yX8_clearViolations, Cond.instanceMethod yX8_clearViolations, Cond.selects RX8 yX8_clearViolations yX8_clearViolations, Cond.code yX8_clearViolations cX8_clearViolations 5 none, Cond.methodLink RX8 350 yX4_add, Cond.instanceMethod yX4_add, Cond.selects RX4 yX4_add yX4_add, Cond.code yX4_add cX4_add 4 none, Cond.fieldLink RX4 25 "CrewPairer$Repairs" "count" "I", Cond.methodLink RX8 347 yX4_flownEntry, Cond.instanceMethod yX4_flownEntry, Cond.selects RX4 yX4_flownEntry yX4_flownEntry, Cond.code yX4_flownEntry cX4_flownEntry 3 (some .int), Cond.methodLink RL 150 yX9_repair, Cond.instanceMethod yX9_repair, Cond.selects RX9 yX9_repair yX9_repair, Cond.code yX9_repair cX9_repair 4 (some .int), Cond.fieldLink RX9 243 "CrewPairerModel" "removedMany" "I", Cond.methodLink RX9 246 yX9_callFor, Cond.instanceMethod yX9_callFor, Cond.selects RX9 yX9_callFor yX9_callFor]
def wsL_law_r36 : List Cond := [Cond.code yX9_callFor cX9_callFor 5 none, Cond.methodLink RL 151 yX8_repaired, Cond.instanceMethod yX8_repaired, Cond.selects RX8 yX8_repaired yX8_repaired, Cond.code yX8_repaired cX8_repaired 3 (some .int), Cond.fieldLink RX8 251 "CrewPairer$Repairs" "crews" "[I", Cond.fieldLink RX8 254 "CrewPairer$Repairs" "legs" "[I", Cond.fieldLink RX8 255 "CrewPairer$Repairs" "flown" "[Z", Cond.methodLink RL 154 yX9_repaired, Cond.instanceMethod yX9_repaired, Cond.selects RX9 yX9_repaired yX9_repaired, Cond.code yX9_repaired cX9_repaired 3 (some .int), Cond.methodLink RL 155 yX8_bestMinutes, Cond.instanceMethod yX8_bestMinutes, Cond.selects RX8 yX8_bestMinutes yX8_bestMinutes, Cond.code yX8_bestMinutes cX8_bestMinutes 2 (some .int), Cond.fieldLink RX8 262 "CrewPairer$Search" "bestCount" "I", Cond.fieldLink RX8 265 "CrewPairer$Search" "bestSum" "I", Cond.methodLink RX8 259 yX7_run, Cond.instanceMethod yX7_run, Cond.selects RX7 yX7_run yX7_run, Cond.code yX7_run cX7_run 2 none, Cond.fieldLink RX7 26 "CrewPairer$Search" "sum" "I", Cond.fieldLink RX7 30 "CrewPairer$Search" "bestCount" "I"]
def wsL_law_r37 : List Cond := [Cond.fieldLink RX7 33 "CrewPairer$Search" "bestSum" "I", Cond.methodLink RX7 36 yX6_load, Cond.methodLink RX7 42 yX6_findViolations, Cond.methodLink RX7 46 yX7_extend, Cond.static yX7_extend, Cond.code yX7_extend cX7_extend 3 none, Cond.fieldLink RX7 50 "CrewPairer$Plan" "legCount" "I", Cond.methodLink RX7 55 yX7_isBehind, Cond.instanceMethod yX7_isBehind, Cond.selects RX7 yX7_isBehind yX7_isBehind, Cond.code yX7_isBehind cX7_isBehind 3 (some .boolean), Cond.fieldLink RX7 79 "CrewPairer$Row" "count" "I", Cond.fieldLink RX7 82 "CrewPairer$Plan" "departure" "[I", Cond.fieldLink RX7 85 "CrewPairer$Row" "legs" "[I", Cond.methodLink RX7 59 yX3_isOpen, Cond.methodLink RX7 62 yX6_append, Cond.methodLink RX7 66 yX6_lastBreaks, Cond.instanceMethod yX6_lastBreaks, Cond.selects RX6 yX6_lastBreaks yX6_lastBreaks, Cond.code yX6_lastBreaks cX6_lastBreaks 4 (some .boolean), Cond.methodLink RX7 70 yX3_lengthOf, Cond.methodLink RX7 73 yX7_judge, Cond.instanceMethod yX7_judge, Cond.selects RX7 yX7_judge yX7_judge]
def wsL_law_r38 : List Cond := [Cond.code yX7_judge cX7_judge 2 none, Cond.methodLink RX7 91 arraycopyName, Cond.methodLink RX7 88 yX6_isHome, Cond.methodLink RX7 76 yX6_removeLast, Cond.instanceMethod yX6_removeLast, Cond.selects RX6 yX6_removeLast yX6_removeLast, Cond.code yX6_removeLast cX6_removeLast 2 none, Cond.methodLink RL 158 yX9_bestMinutes, Cond.instanceMethod yX9_bestMinutes, Cond.selects RX9 yX9_bestMinutes yX9_bestMinutes, Cond.code yX9_bestMinutes cX9_bestMinutes 2 (some .int), Cond.fieldLink RX9 253 "CrewPairerModel" "bestMany" "I", Cond.fieldLink RX9 250 "CrewPairerModel" "bestMinutes" "I", Cond.methodLink RX9 259 yX9_findBest, Cond.instanceMethod yX9_findBest, Cond.selects RX9 yX9_findBest yX9_findBest, Cond.code yX9_findBest cX9_findBest 2 none, Cond.methodLink RX9 256 yX9_search, Cond.instanceMethod yX9_search, Cond.selects RX9 yX9_search yX9_search, Cond.code yX9_search cX9_search 6 none, Cond.methodLink RL 159 yX8_bestLeg, Cond.instanceMethod yX8_bestLeg, Cond.selects RX8 yX8_bestLeg yX8_bestLeg]
def wsL_law_r39 : List Cond := [Cond.code yX8_bestLeg cX8_bestLeg 3 (some .int), Cond.fieldLink RX8 268 "CrewPairer$Search" "best" "[I", Cond.methodLink RL 162 yX9_bestLeg, Cond.instanceMethod yX9_bestLeg, Cond.selects RX9 yX9_bestLeg yX9_bestLeg, Cond.code yX9_bestLeg cX9_bestLeg 3 (some .int), Cond.methodLink RL 163 yX8_takeBest, Cond.instanceMethod yX8_takeBest, Cond.selects RX8 yX8_takeBest yX8_takeBest, Cond.code yX8_takeBest cX8_takeBest 2 (some .int), Cond.methodLink RX8 271 yX8_takePairing, Cond.instanceMethod yX8_takePairing, Cond.selects RX8 yX8_takePairing yX8_takePairing, Cond.code yX8_takePairing cX8_takePairing 3 (some .int), Cond.methodLink RL 166 yX9_takeBest, Cond.instanceMethod yX9_takeBest, Cond.selects RX9 yX9_takeBest yX9_takeBest, Cond.code yX9_takeBest cX9_takeBest 4 (some .int), Cond.methodLink RL 167 yX8_letter, Cond.instanceMethod yX8_letter, Cond.selects RX8 yX8_letter yX8_letter, Cond.code yX8_letter cX8_letter 3 (some .int), Cond.fieldLink RX8 278 "CrewPairer$Report" "length" "I", Cond.fieldLink RX8 281 "CrewPairer$Report" "text" "[C"]
def wsL_law_r40 : List Cond := [Cond.methodLink RX8 274 yX5_write, Cond.instanceMethod yX5_write, Cond.selects RX5 yX5_write yX5_write, Cond.code yX5_write cX5_write 5 none, Cond.fieldLink RX5 15 "CrewPairer$Report" "length" "I", Cond.fieldLink RX5 19 "CrewPairer$Row" "count" "I", Cond.fieldLink RX5 24 "CrewPairer$Row" "legs" "[I", Cond.fieldLink RX5 28 "CrewPairer$Plan" "from" "[I", Cond.fieldLink RX5 41 "CrewPairer$Plan" "to" "[I", Cond.fieldLink RX5 44 "CrewPairer$Plan" "departure" "[I", Cond.fieldLink RX5 50 "CrewPairer$Plan" "arrival" "[I", Cond.fieldLink RX5 53 "CrewPairer$Row" "flown" "[Z", Cond.methodLink RX5 33 yX5_putDigit, Cond.instanceMethod yX5_putDigit, Cond.selects RX5 yX5_putDigit yX5_putDigit, Cond.code yX5_putDigit cX5_putDigit 2 none, Cond.methodLink RX5 37 yX5_put, Cond.instanceMethod yX5_put, Cond.selects RX5 yX5_put yX5_put, Cond.code yX5_put cX5_put 2 none, Cond.methodLink RX5 47 yX5_putTime, Cond.instanceMethod yX5_putTime, Cond.selects RX5 yX5_putTime yX5_putTime, Cond.code yX5_putTime cX5_putTime 4 none]
def wsL_law_r41 : List Cond := [Cond.methodLink RX5 61 yX5_putWord, Cond.instanceMethod yX5_putWord, Cond.selects RX5 yX5_putWord yX5_putWord, Cond.code yX5_putWord cX5_putWord 3 none, Cond.methodLink RX5 65 yJ0_length_8abf5, Cond.instanceMethod yJ0_length_8abf5, Cond.selects RJ0 yJ0_length_8abf5 yJ0_length_8abf5, Cond.initialized RJ0, Cond.code yJ0_length_8abf5 cJ0_length_8abf5 1 (some .int), Cond.fieldLink RJ0 9 "java/lang/String" "value" "[B", Cond.methodLink RJ0 335 yJ0_coder_7d493, Cond.instanceMethod yJ0_coder_7d493, Cond.selects RJ0 yJ0_coder_7d493 yJ0_coder_7d493, Cond.code yJ0_coder_7d493 cJ0_coder_7d493 1 (some .byte), Cond.fieldLink RJ0 38 "java/lang/String" "COMPACT_STRINGS" "Z", Cond.fieldLink RJ0 15 "java/lang/String" "coder" "B", Cond.methodLink RX5 70 yJ0_charAt_5068e, Cond.instanceMethod yJ0_charAt_5068e, Cond.selects RJ0 yJ0_charAt_5068e yJ0_charAt_5068e, Cond.code yJ0_charAt_5068e cJ0_charAt_5068e 2 (some .char), Cond.methodLink RJ0 492 yJ0_isLatin1_aae02, Cond.instanceMethod yJ0_isLatin1_aae02, Cond.selects RJ0 yJ0_isLatin1_aae02 yJ0_isLatin1_aae02, Cond.code yJ0_isLatin1_aae02 cJ0_isLatin1_aae02 1 (some .boolean)]
def wsL_law_r42 : List Cond := [Cond.methodLink RJ0 495 yJ1_charAt_3b067, Cond.static yJ1_charAt_3b067, Cond.initialized RJ1, Cond.code yJ1_charAt_3b067 cJ1_charAt_3b067 2 (some .char), Cond.methodLink RJ1 9 yJ0_checkIndex_df160, Cond.static yJ0_checkIndex_df160, Cond.code yJ0_checkIndex_df160 cJ0_checkIndex_df160 2 none, Cond.fieldLink RJ0 1053 "jdk/internal/util/Preconditions" "SIOOBE_FORMATTER" "Ljava/util/function/BiFunction;", Cond.methodLink RJ0 1059 yJ3_checkIndex_8e157, Cond.static yJ3_checkIndex_8e157, Cond.initialized RJ3, Cond.code yJ3_checkIndex_8e157 cJ3_checkIndex_8e157 3 (some .int), Cond.methodLink RJ0 498 yJ2_charAt_3b067, Cond.static yJ2_charAt_3b067, Cond.initialized RJ2, Cond.code yJ2_charAt_3b067 cJ2_charAt_3b067 2 (some .char), Cond.methodLink RJ2 67 yJ2_checkIndex_2214a, Cond.static yJ2_checkIndex_2214a, Cond.code yJ2_checkIndex_2214a cJ2_checkIndex_2214a 2 none, Cond.methodLink RJ2 48 yJ2_length_9d52b, Cond.static yJ2_length_9d52b, Cond.code yJ2_length_9d52b cJ2_length_9d52b 1 (some .int), Cond.methodLink RJ2 414 yJ0_checkIndex_df160, Cond.methodLink RJ2 71 yJ2_getChar_3b067]
def wsL_law_r43 : List Cond := [Cond.static yJ2_getChar_3b067, Cond.code yJ2_getChar_3b067 cJ2_getChar_3b067 2 (some .char), Cond.fieldLink RJ2 44 "java/lang/StringUTF16" "$assertionsDisabled" "Z", Cond.fieldLink RJ2 59 "java/lang/StringUTF16" "HI_BYTE_SHIFT" "I", Cond.fieldLink RJ2 63 "java/lang/StringUTF16" "LO_BYTE_SHIFT" "I", Cond.methodLink RL 170 yX9_letter, Cond.instanceMethod yX9_letter, Cond.selects RX9 yX9_letter yX9_letter, Cond.code yX9_letter cX9_letter 4 (some .int), Cond.fieldLink RX9 262 "CrewPairerModel" "writtenMany" "I", Cond.methodLink RX9 287 yX9_writeItem, Cond.instanceMethod yX9_writeItem, Cond.selects RX9 yX9_writeItem yX9_writeItem, Cond.code yX9_writeItem cX9_writeItem 5 none, Cond.methodLink RX9 265 yX9_write, Cond.instanceMethod yX9_write, Cond.selects RX9 yX9_write yX9_write, Cond.code yX9_write cX9_write 2 none, Cond.methodLink RX9 271 yX9_writeTime, Cond.instanceMethod yX9_writeTime, Cond.selects RX9 yX9_writeTime yX9_writeTime, Cond.code yX9_writeTime cX9_writeTime 2 none, Cond.methodLink RX9 268 yX9_writeTwo, Cond.instanceMethod yX9_writeTwo]
def wsL_law_r44 : List Cond := [Cond.selects RX9 yX9_writeTwo yX9_writeTwo, Cond.code yX9_writeTwo cX9_writeTwo 2 none, Cond.methodLink RX9 278 yJ0_length_8abf5, Cond.methodLink RX9 283 yJ0_charAt_5068e, Cond.methodLink RL 171 yX8_feed, Cond.instanceMethod yX8_feed, Cond.selects RX8 yX8_feed yX8_feed, Cond.code yX8_feed cX8_feed 2 (some .int), Cond.fieldLink RX8 285 "CrewPairer$Commands" "length" "I", Cond.fieldLink RX8 286 "CrewPairer$Commands" "text" "[C", Cond.methodLink RL 174 yX9_feed, Cond.instanceMethod yX9_feed, Cond.selects RX9 yX9_feed yX9_feed, Cond.code yX9_feed cX9_feed 2 (some .int), Cond.fieldLink RX9 290 "CrewPairerModel" "length" "I", Cond.methodLink RL 175 yX8_execute, Cond.instanceMethod yX8_execute, Cond.selects RX8 yX8_execute yX8_execute, Cond.code yX8_execute cX8_execute 3 (some .int), Cond.fieldLink RX8 290 "CrewPairer$Commands" "count" "I", Cond.methodLink RX8 287 yX0_parse, Cond.instanceMethod yX0_parse, Cond.selects RX0 yX0_parse yX0_parse, Cond.code yX0_parse cX0_parse 2 (some .int)]
def wsL_law_r45 : List Cond := [Cond.fieldLink RX0 22 "CrewPairer$Commands" "position" "I", Cond.fieldLink RX0 26 "CrewPairer$Commands" "count" "I", Cond.fieldLink RX0 33 "CrewPairer$Commands" "length" "I", Cond.methodLink RX0 29 yX0_parseCommand, Cond.instanceMethod yX0_parseCommand, Cond.selects RX0 yX0_parseCommand yX0_parseCommand, Cond.code yX0_parseCommand cX0_parseCommand 5 (some .boolean), Cond.methodLink RX0 36 yX0_wordOf, Cond.static yX0_wordOf, Cond.code yX0_wordOf cX0_wordOf 1 (some (.object "java/lang/String")), Cond.methodLink RX0 40 yX0_hasWord, Cond.instanceMethod yX0_hasWord, Cond.selects RX0 yX0_hasWord yX0_hasWord, Cond.code yX0_hasWord cX0_hasWord 4 (some .boolean), Cond.methodLink RX0 50 yJ0_length_8abf5, Cond.methodLink RX0 55 yJ0_charAt_5068e, Cond.methodLink RX0 47 yX0_parseNumber, Cond.instanceMethod yX0_parseNumber, Cond.selects RX0 yX0_parseNumber yX0_parseNumber, Cond.code yX0_parseNumber cX0_parseNumber 4 (some .boolean), Cond.methodLink RX8 291 yX8_runCommand, Cond.instanceMethod yX8_runCommand, Cond.selects RX8 yX8_runCommand yX8_runCommand, Cond.code yX8_runCommand cX8_runCommand 5 (some .int)]
def wsL_law_r46 : List Cond := [Cond.fieldLink RX8 354 "CrewPairer$Commands" "numbers" "[I", Cond.fieldLink RX8 357 "CrewPairer$Commands" "words" "[I", Cond.methodLink RL 178 yX9_execute, Cond.instanceMethod yX9_execute, Cond.selects RX9 yX9_execute yX9_execute, Cond.code yX9_execute cX9_execute 4 (some .int), Cond.fieldLink RX9 292 "CrewPairerModel" "place" "I", Cond.fieldLink RX9 322 "CrewPairerModel" "isWrong" "Z", Cond.methodLink RX9 359 yX9_command, Cond.instanceMethod yX9_command, Cond.selects RX9 yX9_command yX9_command, Cond.code yX9_command cX9_command 6 (some .int), Cond.methodLink RX9 319 yX9_here, Cond.instanceMethod yX9_here, Cond.selects RX9 yX9_here yX9_here, Cond.code yX9_here cX9_here 1 (some .int), Cond.methodLink RX9 350 yX9_wordOf, Cond.instanceMethod yX9_wordOf, Cond.selects RX9 yX9_wordOf yX9_wordOf, Cond.code yX9_wordOf cX9_wordOf 5 (some .int), Cond.classLink RX9 279 RJ0, Cond.methodLink RX9 315 yX9_isWord, Cond.instanceMethod yX9_isWord, Cond.selects RX9 yX9_isWord yX9_isWord]
def wsL_law_r47 : List Cond := [Cond.code yX9_isWord cX9_isWord 5 (some .boolean), Cond.methodLink RX9 353 yX9_readNumber, Cond.instanceMethod yX9_readNumber, Cond.selects RX9 yX9_readNumber yX9_readNumber, Cond.code yX9_readNumber cX9_readNumber 3 none, Cond.methodLink RX9 356 yX9_perform, Cond.instanceMethod yX9_perform, Cond.selects RX9 yX9_perform yX9_perform, Cond.code yX9_perform cX9_perform 4 (some .int), Cond.methodLink RX9 325 yX9_addLeg, Cond.methodLink RX9 329 yX9_addCrew, Cond.methodLink RX9 332 yX9_fly, Cond.methodLink RX9 334 yX9_ride, Cond.methodLink RX9 336 yX9_drop, Cond.methodLink RX9 338 yX9_delay, Cond.methodLink RX9 341 yX9_cancel, Cond.methodLink RX9 343 yX9_setRule, Cond.methodLink RX9 346 yX9_pair, Cond.methodLink RX9 348 yX9_repair, Cond.methodLink RL 179 yX8_save, Cond.instanceMethod yX8_save, Cond.selects RX8 yX8_save yX8_save, Cond.code yX8_save cX8_save 1 (some .int), Cond.methodLink RL 182 yX9_save]
def wsL_law_r48 : List Cond := [Cond.instanceMethod yX9_save, Cond.selects RX9 yX9_save yX9_save, Cond.code yX9_save cX9_save 1 (some .int), Cond.fieldLink RX9 363 "CrewPairerModel" "isSaved" "Z", Cond.methodLink RL 183 yX8_restore, Cond.instanceMethod yX8_restore, Cond.selects RX8 yX8_restore yX8_restore, Cond.code yX8_restore cX8_restore 1 (some .int), Cond.methodLink RL 186 yX9_restore, Cond.instanceMethod yX9_restore, Cond.selects RX9 yX9_restore yX9_restore, Cond.code yX9_restore cX9_restore 1 (some .int), Cond.methodLink RL 187 yX8_undo, Cond.instanceMethod yX8_undo, Cond.selects RX8 yX8_undo yX8_undo, Cond.code yX8_undo cX8_undo 1 (some .int), Cond.methodLink RX8 294 yX1_takeBack, Cond.instanceMethod yX1_takeBack, Cond.selects RX1 yX1_takeBack yX1_takeBack, Cond.code yX1_takeBack cX1_takeBack 2 (some .int), Cond.methodLink RL 190 yX9_undo, Cond.instanceMethod yX9_undo, Cond.selects RX9 yX9_undo yX9_undo, Cond.code yX9_undo cX9_undo 1 (some .int)]
def wsL_law : List Cond := (wsL_law_r1 ++ (wsL_law_r2 ++ (wsL_law_r3 ++ (wsL_law_r4 ++ (wsL_law_r5 ++ (wsL_law_r6 ++ (wsL_law_r7 ++ (wsL_law_r8 ++ (wsL_law_r9 ++ (wsL_law_r10 ++ (wsL_law_r11 ++ (wsL_law_r12 ++ (wsL_law_r13 ++ (wsL_law_r14 ++ (wsL_law_r15 ++ (wsL_law_r16 ++ (wsL_law_r17 ++ (wsL_law_r18 ++ (wsL_law_r19 ++ (wsL_law_r20 ++ (wsL_law_r21 ++ (wsL_law_r22 ++ (wsL_law_r23 ++ (wsL_law_r24 ++ (wsL_law_r25 ++ (wsL_law_r26 ++ (wsL_law_r27 ++ (wsL_law_r28 ++ (wsL_law_r29 ++ (wsL_law_r30 ++ (wsL_law_r31 ++ (wsL_law_r32 ++ (wsL_law_r33 ++ (wsL_law_r34 ++ (wsL_law_r35 ++ (wsL_law_r36 ++ (wsL_law_r37 ++ (wsL_law_r38 ++ (wsL_law_r39 ++ (wsL_law_r40 ++ (wsL_law_r41 ++ (wsL_law_r42 ++ (wsL_law_r43 ++ (wsL_law_r44 ++ (wsL_law_r45 ++ (wsL_law_r46 ++ (wsL_law_r47 ++ wsL_law_r48))))))))))))))))))))))))))))))))))))))))))))))) ++ wsX80 ++ wsX90 ++ wsX30 ++ wsX10 ++ wsX60 ++ wsX20 ++ wsX40 ++ wsX70 ++ wsX50 ++ wsX00 ++ ([] : List Cond)
set_option maxRecDepth 20000 in
theorem inlX0 : ∀ w ∈ wsX00, w ∈ wsL_law := fun _ h => List.mem_append_left _ (List.mem_append_right _ h)
theorem inlX1 : ∀ w ∈ wsX10, w ∈ wsL_law := fun _ h => List.mem_append_left _ (List.mem_append_left _ (List.mem_append_left _ (List.mem_append_left _ (List.mem_append_left _ (List.mem_append_left _ (List.mem_append_left _ (List.mem_append_right _ h)))))))
theorem inlX2 : ∀ w ∈ wsX20, w ∈ wsL_law := fun _ h => List.mem_append_left _ (List.mem_append_left _ (List.mem_append_left _ (List.mem_append_left _ (List.mem_append_left _ (List.mem_append_right _ h)))))
theorem inlX3 : ∀ w ∈ wsX30, w ∈ wsL_law := fun _ h => List.mem_append_left _ (List.mem_append_left _ (List.mem_append_left _ (List.mem_append_left _ (List.mem_append_left _ (List.mem_append_left _ (List.mem_append_left _ (List.mem_append_left _ (List.mem_append_right _ h))))))))
theorem inlX4 : ∀ w ∈ wsX40, w ∈ wsL_law := fun _ h => List.mem_append_left _ (List.mem_append_left _ (List.mem_append_left _ (List.mem_append_left _ (List.mem_append_right _ h))))
theorem inlX5 : ∀ w ∈ wsX50, w ∈ wsL_law := fun _ h => List.mem_append_left _ (List.mem_append_left _ (List.mem_append_right _ h))
theorem inlX6 : ∀ w ∈ wsX60, w ∈ wsL_law := fun _ h => List.mem_append_left _ (List.mem_append_left _ (List.mem_append_left _ (List.mem_append_left _ (List.mem_append_left _ (List.mem_append_left _ (List.mem_append_right _ h))))))
theorem inlX7 : ∀ w ∈ wsX70, w ∈ wsL_law := fun _ h => List.mem_append_left _ (List.mem_append_left _ (List.mem_append_left _ (List.mem_append_right _ h)))
theorem inlX8 : ∀ w ∈ wsX80, w ∈ wsL_law := fun _ h => List.mem_append_left _ (List.mem_append_left _ (List.mem_append_left _ (List.mem_append_left _ (List.mem_append_left _ (List.mem_append_left _ (List.mem_append_left _ (List.mem_append_left _ (List.mem_append_left _ (List.mem_append_left _ (List.mem_append_right _ h))))))))))
theorem inlX9 : ∀ w ∈ wsX90, w ∈ wsL_law := fun _ h => List.mem_append_left _ (List.mem_append_left _ (List.mem_append_left _ (List.mem_append_left _ (List.mem_append_left _ (List.mem_append_left _ (List.mem_append_left _ (List.mem_append_left _ (List.mem_append_left _ (List.mem_append_right _ h)))))))))
abbrev vwCl : List vw_C := [(RX0, TX0, 6), (RX1, TX1, 3), (RX2, TX2, 4), (RX3, TX3, 13), (RX4, TX4, 5), (RX5, TX5, 2), (RX6, TX6, 14), (RX7, TX7, 7), (RX8, TX8, 11), (RX9, TX9, 30)]
