theorem dX8_init_0 : decode cX8_init 0 = .ok (.aload_n 0, 1) := by decide +kernel
theorem dX8_init_1 : decode cX8_init 1 = .ok (.invokespecial 1, 3) := by decide +kernel
theorem dX8_init_4 : decode cX8_init 4 = .ok (.aload_n 0, 1) := by decide +kernel
theorem dX8_init_5 : decode cX8_init 5 = .ok (.new 7, 3) := by decide +kernel
theorem dX8_init_8 : decode cX8_init 8 = .ok (.dup, 1) := by decide +kernel
theorem dX8_init_9 : decode cX8_init 9 = .ok (.invokespecial 9, 3) := by decide +kernel
theorem dX8_init_12 : decode cX8_init 12 = .ok (.putfield 10, 3) := by decide +kernel
theorem dX8_init_15 : decode cX8_init 15 = .ok (.aload_n 0, 1) := by decide +kernel
theorem dX8_init_16 : decode cX8_init 16 = .ok (.new 7, 3) := by decide +kernel
theorem dX8_init_19 : decode cX8_init 19 = .ok (.dup, 1) := by decide +kernel
theorem dX8_init_20 : decode cX8_init 20 = .ok (.invokespecial 9, 3) := by decide +kernel
theorem dX8_init_23 : decode cX8_init 23 = .ok (.putfield 16, 3) := by decide +kernel
theorem dX8_init_26 : decode cX8_init 26 = .ok (.aload_n 0, 1) := by decide +kernel
theorem dX8_init_27 : decode cX8_init 27 = .ok (.new 7, 3) := by decide +kernel
theorem dX8_init_30 : decode cX8_init 30 = .ok (.dup, 1) := by decide +kernel
theorem dX8_init_31 : decode cX8_init 31 = .ok (.invokespecial 9, 3) := by decide +kernel
theorem dX8_init_34 : decode cX8_init 34 = .ok (.putfield 19, 3) := by decide +kernel
theorem dX8_init_37 : decode cX8_init 37 = .ok (.aload_n 0, 1) := by decide +kernel
theorem dX8_init_38 : decode cX8_init 38 = .ok (.iconst 0, 1) := by decide +kernel
theorem dX8_init_39 : decode cX8_init 39 = .ok (.putfield 22, 3) := by decide +kernel
theorem dX8_init_42 : decode cX8_init 42 = .ok (.aload_n 0, 1) := by decide +kernel
theorem dX8_init_43 : decode cX8_init 43 = .ok (.new 26, 3) := by decide +kernel
theorem dX8_init_46 : decode cX8_init 46 = .ok (.dup, 1) := by decide +kernel
theorem dX8_init_47 : decode cX8_init 47 = .ok (.invokespecial 28, 3) := by decide +kernel
theorem dX8_init_50 : decode cX8_init 50 = .ok (.putfield 29, 3) := by decide +kernel
theorem dX8_init_53 : decode cX8_init 53 = .ok (.aload_n 0, 1) := by decide +kernel
theorem dX8_init_54 : decode cX8_init 54 = .ok (.new 33, 3) := by decide +kernel
theorem dX8_init_57 : decode cX8_init 57 = .ok (.dup, 1) := by decide +kernel
theorem dX8_init_58 : decode cX8_init 58 = .ok (.aload_n 0, 1) := by decide +kernel
theorem dX8_init_59 : decode cX8_init 59 = .ok (.getfield 10, 3) := by decide +kernel
theorem dX8_init_62 : decode cX8_init 62 = .ok (.invokespecial 35, 3) := by decide +kernel
theorem dX8_init_65 : decode cX8_init 65 = .ok (.putfield 38, 3) := by decide +kernel
theorem dX8_init_68 : decode cX8_init 68 = .ok (.aload_n 0, 1) := by decide +kernel
theorem dX8_init_69 : decode cX8_init 69 = .ok (.new 42, 3) := by decide +kernel
theorem dX8_init_72 : decode cX8_init 72 = .ok (.dup, 1) := by decide +kernel
theorem dX8_init_73 : decode cX8_init 73 = .ok (.invokespecial 44, 3) := by decide +kernel
theorem dX8_init_76 : decode cX8_init 76 = .ok (.putfield 45, 3) := by decide +kernel
theorem dX8_init_79 : decode cX8_init 79 = .ok (.aload_n 0, 1) := by decide +kernel
theorem dX8_init_80 : decode cX8_init 80 = .ok (.new 49, 3) := by decide +kernel
theorem dX8_init_83 : decode cX8_init 83 = .ok (.dup, 1) := by decide +kernel
theorem dX8_init_84 : decode cX8_init 84 = .ok (.invokespecial 51, 3) := by decide +kernel
theorem dX8_init_87 : decode cX8_init 87 = .ok (.putfield 52, 3) := by decide +kernel
theorem dX8_init_90 : decode cX8_init 90 = .ok (.aload_n 0, 1) := by decide +kernel
theorem dX8_init_91 : decode cX8_init 91 = .ok (.new 56, 3) := by decide +kernel
theorem dX8_init_94 : decode cX8_init 94 = .ok (.dup, 1) := by decide +kernel
theorem dX8_init_95 : decode cX8_init 95 = .ok (.aload_n 0, 1) := by decide +kernel
theorem dX8_init_96 : decode cX8_init 96 = .ok (.getfield 10, 3) := by decide +kernel
theorem dX8_init_99 : decode cX8_init 99 = .ok (.aload_n 0, 1) := by decide +kernel
theorem dX8_init_100 : decode cX8_init 100 = .ok (.getfield 38, 3) := by decide +kernel
theorem dX8_init_103 : decode cX8_init 103 = .ok (.invokespecial 58, 3) := by decide +kernel
theorem dX8_init_106 : decode cX8_init 106 = .ok (.putfield 61, 3) := by decide +kernel
theorem dX8_init_109 : decode cX8_init 109 = .ok (.aload_n 0, 1) := by decide +kernel
theorem dX8_init_110 : decode cX8_init 110 = .ok (.new 65, 3) := by decide +kernel
theorem dX8_init_113 : decode cX8_init 113 = .ok (.dup, 1) := by decide +kernel
theorem dX8_init_114 : decode cX8_init 114 = .ok (.invokespecial 67, 3) := by decide +kernel
theorem dX8_init_117 : decode cX8_init 117 = .ok (.putfield 68, 3) := by decide +kernel
theorem dX8_init_120 : decode cX8_init 120 = .ok (.aload_n 0, 1) := by decide +kernel
theorem dX8_init_121 : decode cX8_init 121 = .ok (.new 72, 3) := by decide +kernel
theorem dX8_init_124 : decode cX8_init 124 = .ok (.dup, 1) := by decide +kernel
theorem dX8_init_125 : decode cX8_init 125 = .ok (.invokespecial 74, 3) := by decide +kernel
theorem dX8_init_128 : decode cX8_init 128 = .ok (.putfield 75, 3) := by decide +kernel
theorem dX8_init_131 : decode cX8_init 131 = .ok (.return_, 1) := by decide +kernel
theorem dX8_addLeg_0 : decode cX8_addLeg 0 = .ok (.aload_n 0, 1) := by decide +kernel
theorem dX8_addLeg_1 : decode cX8_addLeg 1 = .ok (.getfield 16, 3) := by decide +kernel
theorem dX8_addLeg_4 : decode cX8_addLeg 4 = .ok (.aload_n 0, 1) := by decide +kernel
theorem dX8_addLeg_5 : decode cX8_addLeg 5 = .ok (.getfield 10, 3) := by decide +kernel
theorem dX8_addLeg_8 : decode cX8_addLeg 8 = .ok (.invokevirtual 79, 3) := by decide +kernel
theorem dX8_addLeg_11 : decode cX8_addLeg 11 = .ok (.aload_n 0, 1) := by decide +kernel
theorem dX8_addLeg_12 : decode cX8_addLeg 12 = .ok (.aload_n 0, 1) := by decide +kernel
theorem dX8_addLeg_13 : decode cX8_addLeg 13 = .ok (.iload_n 1, 1) := by decide +kernel
theorem dX8_addLeg_14 : decode cX8_addLeg 14 = .ok (.iload_n 2, 1) := by decide +kernel
theorem dX8_addLeg_15 : decode cX8_addLeg 15 = .ok (.iload_n 3, 1) := by decide +kernel
theorem dX8_addLeg_16 : decode cX8_addLeg 16 = .ok (.iload 4, 2) := by decide +kernel
theorem dX8_addLeg_18 : decode cX8_addLeg 18 = .ok (.invokevirtual 82, 3) := by decide +kernel
theorem dX8_addLeg_21 : decode cX8_addLeg 21 = .ok (.invokevirtual 86, 3) := by decide +kernel
theorem dX8_addLeg_24 : decode cX8_addLeg 24 = .ok (.ireturn, 1) := by decide +kernel
theorem dX8_addCrew_0 : decode cX8_addCrew 0 = .ok (.aload_n 0, 1) := by decide +kernel
theorem dX8_addCrew_1 : decode cX8_addCrew 1 = .ok (.getfield 16, 3) := by decide +kernel
theorem dX8_addCrew_4 : decode cX8_addCrew 4 = .ok (.aload_n 0, 1) := by decide +kernel
theorem dX8_addCrew_5 : decode cX8_addCrew 5 = .ok (.getfield 10, 3) := by decide +kernel
theorem dX8_addCrew_8 : decode cX8_addCrew 8 = .ok (.invokevirtual 79, 3) := by decide +kernel
theorem dX8_addCrew_11 : decode cX8_addCrew 11 = .ok (.aload_n 0, 1) := by decide +kernel
theorem dX8_addCrew_12 : decode cX8_addCrew 12 = .ok (.aload_n 0, 1) := by decide +kernel
theorem dX8_addCrew_13 : decode cX8_addCrew 13 = .ok (.iload_n 1, 1) := by decide +kernel
theorem dX8_addCrew_14 : decode cX8_addCrew 14 = .ok (.invokevirtual 90, 3) := by decide +kernel
theorem dX8_addCrew_17 : decode cX8_addCrew 17 = .ok (.invokevirtual 86, 3) := by decide +kernel
theorem dX8_addCrew_20 : decode cX8_addCrew 20 = .ok (.ireturn, 1) := by decide +kernel
theorem dX8_legCount_0 : decode cX8_legCount 0 = .ok (.aload_n 0, 1) := by decide +kernel
theorem dX8_legCount_1 : decode cX8_legCount 1 = .ok (.getfield 10, 3) := by decide +kernel
theorem dX8_legCount_4 : decode cX8_legCount 4 = .ok (.getfield 93, 3) := by decide +kernel
theorem dX8_legCount_7 : decode cX8_legCount 7 = .ok (.ireturn, 1) := by decide +kernel
theorem dX8_crewCount_0 : decode cX8_crewCount 0 = .ok (.aload_n 0, 1) := by decide +kernel
theorem dX8_crewCount_1 : decode cX8_crewCount 1 = .ok (.getfield 10, 3) := by decide +kernel
theorem dX8_crewCount_4 : decode cX8_crewCount 4 = .ok (.getfield 97, 3) := by decide +kernel
theorem dX8_crewCount_7 : decode cX8_crewCount 7 = .ok (.ireturn, 1) := by decide +kernel
theorem dX8_leg_0 : decode cX8_leg 0 = .ok (.aload_n 0, 1) := by decide +kernel
theorem dX8_leg_1 : decode cX8_leg 1 = .ok (.getfield 10, 3) := by decide +kernel
theorem dX8_leg_4 : decode cX8_leg 4 = .ok (.iload_n 1, 1) := by decide +kernel
theorem dX8_leg_5 : decode cX8_leg 5 = .ok (.invokevirtual 100, 3) := by decide +kernel
theorem dX8_leg_8 : decode cX8_leg 8 = .ok (.ifCond .ne 5, 3) := by decide +kernel
theorem dX8_leg_11 : decode cX8_leg 11 = .ok (.iconst (-1), 1) := by decide +kernel
theorem dX8_leg_12 : decode cX8_leg 12 = .ok (.ireturn, 1) := by decide +kernel
theorem dX8_leg_13 : decode cX8_leg 13 = .ok (.iload_n 2, 1) := by decide +kernel
theorem dX8_leg_14 : decode cX8_leg 14 = .ok (.tableswitch 97 0 5 #[38, 48, 58, 68, 78, 88], 38) := by decide +kernel
theorem dX8_leg_52 : decode cX8_leg 52 = .ok (.aload_n 0, 1) := by decide +kernel
theorem dX8_leg_53 : decode cX8_leg 53 = .ok (.getfield 10, 3) := by decide +kernel
theorem dX8_leg_56 : decode cX8_leg 56 = .ok (.getfield 104, 3) := by decide +kernel
theorem dX8_leg_59 : decode cX8_leg 59 = .ok (.iload_n 1, 1) := by decide +kernel
theorem dX8_leg_60 : decode cX8_leg 60 = .ok (.iaload, 1) := by decide +kernel
theorem dX8_leg_61 : decode cX8_leg 61 = .ok (.ireturn, 1) := by decide +kernel
theorem dX8_leg_62 : decode cX8_leg 62 = .ok (.aload_n 0, 1) := by decide +kernel
theorem dX8_leg_63 : decode cX8_leg 63 = .ok (.getfield 10, 3) := by decide +kernel
theorem dX8_leg_66 : decode cX8_leg 66 = .ok (.getfield 108, 3) := by decide +kernel
theorem dX8_leg_69 : decode cX8_leg 69 = .ok (.iload_n 1, 1) := by decide +kernel
theorem dX8_leg_70 : decode cX8_leg 70 = .ok (.iaload, 1) := by decide +kernel
theorem dX8_leg_71 : decode cX8_leg 71 = .ok (.ireturn, 1) := by decide +kernel
theorem dX8_leg_72 : decode cX8_leg 72 = .ok (.aload_n 0, 1) := by decide +kernel
theorem dX8_leg_73 : decode cX8_leg 73 = .ok (.getfield 10, 3) := by decide +kernel
theorem dX8_leg_76 : decode cX8_leg 76 = .ok (.getfield 111, 3) := by decide +kernel
theorem dX8_leg_79 : decode cX8_leg 79 = .ok (.iload_n 1, 1) := by decide +kernel
theorem dX8_leg_80 : decode cX8_leg 80 = .ok (.iaload, 1) := by decide +kernel
theorem dX8_leg_81 : decode cX8_leg 81 = .ok (.ireturn, 1) := by decide +kernel
theorem dX8_leg_82 : decode cX8_leg 82 = .ok (.aload_n 0, 1) := by decide +kernel
theorem dX8_leg_83 : decode cX8_leg 83 = .ok (.getfield 10, 3) := by decide +kernel
theorem dX8_leg_86 : decode cX8_leg 86 = .ok (.getfield 114, 3) := by decide +kernel
theorem dX8_leg_89 : decode cX8_leg 89 = .ok (.iload_n 1, 1) := by decide +kernel
theorem dX8_leg_90 : decode cX8_leg 90 = .ok (.iaload, 1) := by decide +kernel
theorem dX8_leg_91 : decode cX8_leg 91 = .ok (.ireturn, 1) := by decide +kernel
theorem dX8_leg_92 : decode cX8_leg 92 = .ok (.aload_n 0, 1) := by decide +kernel
theorem dX8_leg_93 : decode cX8_leg 93 = .ok (.getfield 10, 3) := by decide +kernel
theorem dX8_leg_96 : decode cX8_leg 96 = .ok (.getfield 117, 3) := by decide +kernel
theorem dX8_leg_99 : decode cX8_leg 99 = .ok (.iload_n 1, 1) := by decide +kernel
theorem dX8_leg_100 : decode cX8_leg 100 = .ok (.iaload, 1) := by decide +kernel
theorem dX8_leg_101 : decode cX8_leg 101 = .ok (.ireturn, 1) := by decide +kernel
theorem dX8_leg_102 : decode cX8_leg 102 = .ok (.aload_n 0, 1) := by decide +kernel
theorem dX8_leg_103 : decode cX8_leg 103 = .ok (.getfield 10, 3) := by decide +kernel
theorem dX8_leg_106 : decode cX8_leg 106 = .ok (.iload_n 1, 1) := by decide +kernel
theorem dX8_leg_107 : decode cX8_leg 107 = .ok (.invokevirtual 120, 3) := by decide +kernel
theorem dX8_leg_110 : decode cX8_leg 110 = .ok (.ireturn, 1) := by decide +kernel
theorem dX8_leg_111 : decode cX8_leg 111 = .ok (.iconst (-1), 1) := by decide +kernel
theorem dX8_leg_112 : decode cX8_leg 112 = .ok (.ireturn, 1) := by decide +kernel
theorem dX8_setRule_0 : decode cX8_setRule 0 = .ok (.aload_n 0, 1) := by decide +kernel
theorem dX8_setRule_1 : decode cX8_setRule 1 = .ok (.getfield 16, 3) := by decide +kernel
theorem dX8_setRule_4 : decode cX8_setRule 4 = .ok (.aload_n 0, 1) := by decide +kernel
theorem dX8_setRule_5 : decode cX8_setRule 5 = .ok (.getfield 10, 3) := by decide +kernel
theorem dX8_setRule_8 : decode cX8_setRule 8 = .ok (.invokevirtual 79, 3) := by decide +kernel
theorem dX8_setRule_11 : decode cX8_setRule 11 = .ok (.aload_n 0, 1) := by decide +kernel
theorem dX8_setRule_12 : decode cX8_setRule 12 = .ok (.aload_n 0, 1) := by decide +kernel
theorem dX8_setRule_13 : decode cX8_setRule 13 = .ok (.iload_n 1, 1) := by decide +kernel
theorem dX8_setRule_14 : decode cX8_setRule 14 = .ok (.iload_n 2, 1) := by decide +kernel
theorem dX8_setRule_15 : decode cX8_setRule 15 = .ok (.invokevirtual 123, 3) := by decide +kernel
theorem dX8_setRule_18 : decode cX8_setRule 18 = .ok (.invokevirtual 86, 3) := by decide +kernel
theorem dX8_setRule_21 : decode cX8_setRule 21 = .ok (.ireturn, 1) := by decide +kernel
theorem dX8_rule_0 : decode cX8_rule 0 = .ok (.iload_n 1, 1) := by decide +kernel
theorem dX8_rule_1 : decode cX8_rule 1 = .ok (.iconst 0, 1) := by decide +kernel
theorem dX8_rule_2 : decode cX8_rule 2 = .ok (.bipush 7, 2) := by decide +kernel
theorem dX8_rule_4 : decode cX8_rule 4 = .ok (.invokestatic 127, 3) := by decide +kernel
theorem dX8_rule_7 : decode cX8_rule 7 = .ok (.ifCond .ne 5, 3) := by decide +kernel
theorem dX8_rule_10 : decode cX8_rule 10 = .ok (.iconst (-1), 1) := by decide +kernel
theorem dX8_rule_11 : decode cX8_rule 11 = .ok (.ireturn, 1) := by decide +kernel
theorem dX8_rule_12 : decode cX8_rule 12 = .ok (.aload_n 0, 1) := by decide +kernel
theorem dX8_rule_13 : decode cX8_rule 13 = .ok (.getfield 10, 3) := by decide +kernel
theorem dX8_rule_16 : decode cX8_rule 16 = .ok (.getfield 131, 3) := by decide +kernel
theorem dX8_rule_19 : decode cX8_rule 19 = .ok (.iload_n 1, 1) := by decide +kernel
theorem dX8_rule_20 : decode cX8_rule 20 = .ok (.iaload, 1) := by decide +kernel
theorem dX8_rule_21 : decode cX8_rule 21 = .ok (.ireturn, 1) := by decide +kernel
theorem dX8_fly_0 : decode cX8_fly 0 = .ok (.aload_n 0, 1) := by decide +kernel
theorem dX8_fly_1 : decode cX8_fly 1 = .ok (.getfield 16, 3) := by decide +kernel
theorem dX8_fly_4 : decode cX8_fly 4 = .ok (.aload_n 0, 1) := by decide +kernel
theorem dX8_fly_5 : decode cX8_fly 5 = .ok (.getfield 10, 3) := by decide +kernel
theorem dX8_fly_8 : decode cX8_fly 8 = .ok (.invokevirtual 79, 3) := by decide +kernel
theorem dX8_fly_11 : decode cX8_fly 11 = .ok (.aload_n 0, 1) := by decide +kernel
theorem dX8_fly_12 : decode cX8_fly 12 = .ok (.aload_n 0, 1) := by decide +kernel
theorem dX8_fly_13 : decode cX8_fly 13 = .ok (.iload_n 1, 1) := by decide +kernel
theorem dX8_fly_14 : decode cX8_fly 14 = .ok (.iload_n 2, 1) := by decide +kernel
theorem dX8_fly_15 : decode cX8_fly 15 = .ok (.iconst 1, 1) := by decide +kernel
theorem dX8_fly_16 : decode cX8_fly 16 = .ok (.invokevirtual 134, 3) := by decide +kernel
theorem dX8_fly_19 : decode cX8_fly 19 = .ok (.invokevirtual 86, 3) := by decide +kernel
theorem dX8_fly_22 : decode cX8_fly 22 = .ok (.ireturn, 1) := by decide +kernel
theorem dX8_ride_0 : decode cX8_ride 0 = .ok (.aload_n 0, 1) := by decide +kernel
theorem dX8_ride_1 : decode cX8_ride 1 = .ok (.getfield 16, 3) := by decide +kernel
theorem dX8_ride_4 : decode cX8_ride 4 = .ok (.aload_n 0, 1) := by decide +kernel
theorem dX8_ride_5 : decode cX8_ride 5 = .ok (.getfield 10, 3) := by decide +kernel
theorem dX8_ride_8 : decode cX8_ride 8 = .ok (.invokevirtual 79, 3) := by decide +kernel
theorem dX8_ride_11 : decode cX8_ride 11 = .ok (.aload_n 0, 1) := by decide +kernel
theorem dX8_ride_12 : decode cX8_ride 12 = .ok (.aload_n 0, 1) := by decide +kernel
theorem dX8_ride_13 : decode cX8_ride 13 = .ok (.iload_n 1, 1) := by decide +kernel
theorem dX8_ride_14 : decode cX8_ride 14 = .ok (.iload_n 2, 1) := by decide +kernel
theorem dX8_ride_15 : decode cX8_ride 15 = .ok (.iconst 2, 1) := by decide +kernel
theorem dX8_ride_16 : decode cX8_ride 16 = .ok (.invokevirtual 134, 3) := by decide +kernel
theorem dX8_ride_19 : decode cX8_ride 19 = .ok (.invokevirtual 86, 3) := by decide +kernel
theorem dX8_ride_22 : decode cX8_ride 22 = .ok (.ireturn, 1) := by decide +kernel
theorem dX8_drop_0 : decode cX8_drop 0 = .ok (.aload_n 0, 1) := by decide +kernel
theorem dX8_drop_1 : decode cX8_drop 1 = .ok (.getfield 16, 3) := by decide +kernel
theorem dX8_drop_4 : decode cX8_drop 4 = .ok (.aload_n 0, 1) := by decide +kernel
theorem dX8_drop_5 : decode cX8_drop 5 = .ok (.getfield 10, 3) := by decide +kernel
theorem dX8_drop_8 : decode cX8_drop 8 = .ok (.invokevirtual 79, 3) := by decide +kernel
theorem dX8_drop_11 : decode cX8_drop 11 = .ok (.aload_n 0, 1) := by decide +kernel
theorem dX8_drop_12 : decode cX8_drop 12 = .ok (.aload_n 0, 1) := by decide +kernel
theorem dX8_drop_13 : decode cX8_drop 13 = .ok (.iload_n 1, 1) := by decide +kernel
theorem dX8_drop_14 : decode cX8_drop 14 = .ok (.iload_n 2, 1) := by decide +kernel
theorem dX8_drop_15 : decode cX8_drop 15 = .ok (.invokevirtual 138, 3) := by decide +kernel
theorem dX8_drop_18 : decode cX8_drop 18 = .ok (.invokevirtual 86, 3) := by decide +kernel
theorem dX8_drop_21 : decode cX8_drop 21 = .ok (.ireturn, 1) := by decide +kernel
theorem dX8_reason_0 : decode cX8_reason 0 = .ok (.aload_n 0, 1) := by decide +kernel
theorem dX8_reason_1 : decode cX8_reason 1 = .ok (.getfield 10, 3) := by decide +kernel
theorem dX8_reason_4 : decode cX8_reason 4 = .ok (.iload_n 1, 1) := by decide +kernel
theorem dX8_reason_5 : decode cX8_reason 5 = .ok (.invokevirtual 141, 3) := by decide +kernel
theorem dX8_reason_8 : decode cX8_reason 8 = .ok (.ifCond .eq 14, 3) := by decide +kernel
theorem dX8_reason_11 : decode cX8_reason 11 = .ok (.aload_n 0, 1) := by decide +kernel
theorem dX8_reason_12 : decode cX8_reason 12 = .ok (.getfield 10, 3) := by decide +kernel
theorem dX8_reason_15 : decode cX8_reason 15 = .ok (.iload_n 2, 1) := by decide +kernel
theorem dX8_reason_16 : decode cX8_reason 16 = .ok (.invokevirtual 100, 3) := by decide +kernel
theorem dX8_reason_19 : decode cX8_reason 19 = .ok (.ifCond .ne 5, 3) := by decide +kernel
theorem dX8_reason_22 : decode cX8_reason 22 = .ok (.iconst (-1), 1) := by decide +kernel
theorem dX8_reason_23 : decode cX8_reason 23 = .ok (.ireturn, 1) := by decide +kernel
theorem dX8_reason_24 : decode cX8_reason 24 = .ok (.aload_n 0, 1) := by decide +kernel
theorem dX8_reason_25 : decode cX8_reason 25 = .ok (.iload_n 1, 1) := by decide +kernel
theorem dX8_reason_26 : decode cX8_reason 26 = .ok (.iload_n 2, 1) := by decide +kernel
theorem dX8_reason_27 : decode cX8_reason 27 = .ok (.iload_n 3, 1) := by decide +kernel
theorem dX8_reason_28 : decode cX8_reason 28 = .ok (.ifCond .eq 7, 3) := by decide +kernel
theorem dX8_reason_31 : decode cX8_reason 31 = .ok (.iconst 1, 1) := by decide +kernel
theorem dX8_reason_32 : decode cX8_reason 32 = .ok (.goto 4, 3) := by decide +kernel
theorem dX8_reason_35 : decode cX8_reason 35 = .ok (.iconst 2, 1) := by decide +kernel
theorem dX8_reason_36 : decode cX8_reason 36 = .ok (.invokevirtual 144, 3) := by decide +kernel
theorem dX8_reason_39 : decode cX8_reason 39 = .ok (.ireturn, 1) := by decide +kernel
theorem dX8_place_0 : decode cX8_place 0 = .ok (.aload_n 0, 1) := by decide +kernel
theorem dX8_place_1 : decode cX8_place 1 = .ok (.getfield 10, 3) := by decide +kernel
theorem dX8_place_4 : decode cX8_place 4 = .ok (.iload_n 1, 1) := by decide +kernel
theorem dX8_place_5 : decode cX8_place 5 = .ok (.invokevirtual 141, 3) := by decide +kernel
theorem dX8_place_8 : decode cX8_place 8 = .ok (.ifCond .eq 14, 3) := by decide +kernel
theorem dX8_place_11 : decode cX8_place 11 = .ok (.aload_n 0, 1) := by decide +kernel
theorem dX8_place_12 : decode cX8_place 12 = .ok (.getfield 10, 3) := by decide +kernel
theorem dX8_place_15 : decode cX8_place 15 = .ok (.iload_n 2, 1) := by decide +kernel
theorem dX8_place_16 : decode cX8_place 16 = .ok (.invokevirtual 100, 3) := by decide +kernel
theorem dX8_place_19 : decode cX8_place 19 = .ok (.ifCond .ne 5, 3) := by decide +kernel
theorem dX8_place_22 : decode cX8_place 22 = .ok (.iconst (-1), 1) := by decide +kernel
theorem dX8_place_23 : decode cX8_place 23 = .ok (.ireturn, 1) := by decide +kernel
theorem dX8_place_24 : decode cX8_place 24 = .ok (.aload_n 0, 1) := by decide +kernel
theorem dX8_place_25 : decode cX8_place 25 = .ok (.iload_n 1, 1) := by decide +kernel
theorem dX8_place_26 : decode cX8_place 26 = .ok (.iload_n 2, 1) := by decide +kernel
theorem dX8_place_27 : decode cX8_place 27 = .ok (.iload_n 3, 1) := by decide +kernel
theorem dX8_place_28 : decode cX8_place 28 = .ok (.ifCond .eq 7, 3) := by decide +kernel
theorem dX8_place_31 : decode cX8_place 31 = .ok (.iconst 1, 1) := by decide +kernel
theorem dX8_place_32 : decode cX8_place 32 = .ok (.goto 4, 3) := by decide +kernel
theorem dX8_place_35 : decode cX8_place 35 = .ok (.iconst 2, 1) := by decide +kernel
theorem dX8_place_36 : decode cX8_place 36 = .ok (.invokevirtual 144, 3) := by decide +kernel
theorem dX8_place_39 : decode cX8_place 39 = .ok (.istore 4, 2) := by decide +kernel
theorem dX8_place_41 : decode cX8_place 41 = .ok (.iload 4, 2) := by decide +kernel
theorem dX8_place_43 : decode cX8_place 43 = .ok (.iconst 1, 1) := by decide +kernel
theorem dX8_place_44 : decode cX8_place 44 = .ok (.bipush 7, 2) := by decide +kernel
theorem dX8_place_46 : decode cX8_place 46 = .ok (.invokestatic 127, 3) := by decide +kernel
theorem dX8_place_49 : decode cX8_place 49 = .ok (.ifCond .ne 6, 3) := by decide +kernel
theorem dX8_place_52 : decode cX8_place 52 = .ok (.bipush (-2), 2) := by decide +kernel
theorem dX8_place_54 : decode cX8_place 54 = .ok (.ireturn, 1) := by decide +kernel
theorem dX8_place_55 : decode cX8_place 55 = .ok (.aload_n 0, 1) := by decide +kernel
theorem dX8_place_56 : decode cX8_place 56 = .ok (.getfield 38, 3) := by decide +kernel
theorem dX8_place_59 : decode cX8_place 59 = .ok (.getfield 147, 3) := by decide +kernel
theorem dX8_place_62 : decode cX8_place 62 = .ok (.iconst 0, 1) := by decide +kernel
theorem dX8_place_63 : decode cX8_place 63 = .ok (.iaload, 1) := by decide +kernel
theorem dX8_place_64 : decode cX8_place 64 = .ok (.ireturn, 1) := by decide +kernel
theorem dX8_itemCount_0 : decode cX8_itemCount 0 = .ok (.aload_n 0, 1) := by decide +kernel
theorem dX8_itemCount_1 : decode cX8_itemCount 1 = .ok (.getfield 10, 3) := by decide +kernel
theorem dX8_itemCount_4 : decode cX8_itemCount 4 = .ok (.iload_n 1, 1) := by decide +kernel
theorem dX8_itemCount_5 : decode cX8_itemCount 5 = .ok (.invokevirtual 141, 3) := by decide +kernel
theorem dX8_itemCount_8 : decode cX8_itemCount 8 = .ok (.ifCond .ne 5, 3) := by decide +kernel
theorem dX8_itemCount_11 : decode cX8_itemCount 11 = .ok (.iconst (-1), 1) := by decide +kernel
theorem dX8_itemCount_12 : decode cX8_itemCount 12 = .ok (.ireturn, 1) := by decide +kernel
theorem dX8_itemCount_13 : decode cX8_itemCount 13 = .ok (.aload_n 0, 1) := by decide +kernel
theorem dX8_itemCount_14 : decode cX8_itemCount 14 = .ok (.getfield 38, 3) := by decide +kernel
theorem dX8_itemCount_17 : decode cX8_itemCount 17 = .ok (.iload_n 1, 1) := by decide +kernel
theorem dX8_itemCount_18 : decode cX8_itemCount 18 = .ok (.invokevirtual 150, 3) := by decide +kernel
theorem dX8_itemCount_21 : decode cX8_itemCount 21 = .ok (.aload_n 0, 1) := by decide +kernel
theorem dX8_itemCount_22 : decode cX8_itemCount 22 = .ok (.getfield 38, 3) := by decide +kernel
theorem dX8_itemCount_25 : decode cX8_itemCount 25 = .ok (.getfield 154, 3) := by decide +kernel
theorem dX8_itemCount_28 : decode cX8_itemCount 28 = .ok (.ireturn, 1) := by decide +kernel
theorem dX8_item_0 : decode cX8_item 0 = .ok (.aload_n 0, 1) := by decide +kernel
theorem dX8_item_1 : decode cX8_item 1 = .ok (.getfield 10, 3) := by decide +kernel
theorem dX8_item_4 : decode cX8_item 4 = .ok (.iload_n 1, 1) := by decide +kernel
theorem dX8_item_5 : decode cX8_item 5 = .ok (.invokevirtual 141, 3) := by decide +kernel
theorem dX8_item_8 : decode cX8_item 8 = .ok (.ifCond .eq 12, 3) := by decide +kernel
theorem dX8_item_11 : decode cX8_item 11 = .ok (.iload_n 3, 1) := by decide +kernel
theorem dX8_item_12 : decode cX8_item 12 = .ok (.iconst 0, 1) := by decide +kernel
theorem dX8_item_13 : decode cX8_item 13 = .ok (.iconst 2, 1) := by decide +kernel
theorem dX8_item_14 : decode cX8_item 14 = .ok (.invokestatic 127, 3) := by decide +kernel
theorem dX8_item_17 : decode cX8_item 17 = .ok (.ifCond .ne 5, 3) := by decide +kernel
theorem dX8_item_20 : decode cX8_item 20 = .ok (.iconst (-1), 1) := by decide +kernel
theorem dX8_item_21 : decode cX8_item 21 = .ok (.ireturn, 1) := by decide +kernel
theorem dX8_item_22 : decode cX8_item 22 = .ok (.aload_n 0, 1) := by decide +kernel
theorem dX8_item_23 : decode cX8_item 23 = .ok (.getfield 38, 3) := by decide +kernel
theorem dX8_item_26 : decode cX8_item 26 = .ok (.iload_n 1, 1) := by decide +kernel
theorem dX8_item_27 : decode cX8_item 27 = .ok (.invokevirtual 150, 3) := by decide +kernel
theorem dX8_item_30 : decode cX8_item 30 = .ok (.iload_n 2, 1) := by decide +kernel
theorem dX8_item_31 : decode cX8_item 31 = .ok (.iconst 0, 1) := by decide +kernel
theorem dX8_item_32 : decode cX8_item 32 = .ok (.aload_n 0, 1) := by decide +kernel
theorem dX8_item_33 : decode cX8_item 33 = .ok (.getfield 38, 3) := by decide +kernel
theorem dX8_item_36 : decode cX8_item 36 = .ok (.getfield 154, 3) := by decide +kernel
theorem dX8_item_39 : decode cX8_item 39 = .ok (.iconst 1, 1) := by decide +kernel
theorem dX8_item_40 : decode cX8_item 40 = .ok (.isub, 1) := by decide +kernel
theorem dX8_item_41 : decode cX8_item 41 = .ok (.invokestatic 127, 3) := by decide +kernel
theorem dX8_item_44 : decode cX8_item 44 = .ok (.ifCond .ne 6, 3) := by decide +kernel
theorem dX8_item_47 : decode cX8_item 47 = .ok (.bipush (-2), 2) := by decide +kernel
theorem dX8_item_49 : decode cX8_item 49 = .ok (.ireturn, 1) := by decide +kernel
theorem dX8_item_50 : decode cX8_item 50 = .ok (.iload_n 3, 1) := by decide +kernel
theorem dX8_item_51 : decode cX8_item 51 = .ok (.lookupswitch 53 #[(0, 25), (1, 35)], 25) := by decide +kernel
theorem dX8_item_76 : decode cX8_item 76 = .ok (.aload_n 0, 1) := by decide +kernel
theorem dX8_item_77 : decode cX8_item 77 = .ok (.getfield 38, 3) := by decide +kernel
theorem dX8_item_80 : decode cX8_item 80 = .ok (.getfield 157, 3) := by decide +kernel
theorem dX8_item_83 : decode cX8_item 83 = .ok (.iload_n 2, 1) := by decide +kernel
theorem dX8_item_84 : decode cX8_item 84 = .ok (.iaload, 1) := by decide +kernel
theorem dX8_item_85 : decode cX8_item 85 = .ok (.ireturn, 1) := by decide +kernel
theorem dX8_item_86 : decode cX8_item 86 = .ok (.aload_n 0, 1) := by decide +kernel
theorem dX8_item_87 : decode cX8_item 87 = .ok (.getfield 38, 3) := by decide +kernel
theorem dX8_item_90 : decode cX8_item 90 = .ok (.getfield 160, 3) := by decide +kernel
theorem dX8_item_93 : decode cX8_item 93 = .ok (.iload_n 2, 1) := by decide +kernel
theorem dX8_item_94 : decode cX8_item 94 = .ok (.baload, 1) := by decide +kernel
theorem dX8_item_95 : decode cX8_item 95 = .ok (.ifCond .eq 7, 3) := by decide +kernel
theorem dX8_item_98 : decode cX8_item 98 = .ok (.iconst 1, 1) := by decide +kernel
theorem dX8_item_99 : decode cX8_item 99 = .ok (.goto 4, 3) := by decide +kernel
theorem dX8_item_102 : decode cX8_item 102 = .ok (.iconst 0, 1) := by decide +kernel
theorem dX8_item_103 : decode cX8_item 103 = .ok (.ireturn, 1) := by decide +kernel
theorem dX8_item_104 : decode cX8_item 104 = .ok (.aload_n 0, 1) := by decide +kernel
theorem dX8_item_105 : decode cX8_item 105 = .ok (.getfield 38, 3) := by decide +kernel
theorem dX8_item_108 : decode cX8_item 108 = .ok (.getfield 164, 3) := by decide +kernel
theorem dX8_item_111 : decode cX8_item 111 = .ok (.iload_n 2, 1) := by decide +kernel
theorem dX8_item_112 : decode cX8_item 112 = .ok (.iaload, 1) := by decide +kernel
theorem dX8_item_113 : decode cX8_item 113 = .ok (.ireturn, 1) := by decide +kernel
theorem dX8_dutyCount_0 : decode cX8_dutyCount 0 = .ok (.aload_n 0, 1) := by decide +kernel
theorem dX8_dutyCount_1 : decode cX8_dutyCount 1 = .ok (.getfield 10, 3) := by decide +kernel
theorem dX8_dutyCount_4 : decode cX8_dutyCount 4 = .ok (.iload_n 1, 1) := by decide +kernel
theorem dX8_dutyCount_5 : decode cX8_dutyCount 5 = .ok (.invokevirtual 141, 3) := by decide +kernel
theorem dX8_dutyCount_8 : decode cX8_dutyCount 8 = .ok (.ifCond .ne 5, 3) := by decide +kernel
theorem dX8_dutyCount_11 : decode cX8_dutyCount 11 = .ok (.iconst (-1), 1) := by decide +kernel
theorem dX8_dutyCount_12 : decode cX8_dutyCount 12 = .ok (.ireturn, 1) := by decide +kernel
theorem dX8_dutyCount_13 : decode cX8_dutyCount 13 = .ok (.aload_n 0, 1) := by decide +kernel
theorem dX8_dutyCount_14 : decode cX8_dutyCount 14 = .ok (.getfield 38, 3) := by decide +kernel
theorem dX8_dutyCount_17 : decode cX8_dutyCount 17 = .ok (.iload_n 1, 1) := by decide +kernel
theorem dX8_dutyCount_18 : decode cX8_dutyCount 18 = .ok (.invokevirtual 150, 3) := by decide +kernel
theorem dX8_dutyCount_21 : decode cX8_dutyCount 21 = .ok (.aload_n 0, 1) := by decide +kernel
theorem dX8_dutyCount_22 : decode cX8_dutyCount 22 = .ok (.getfield 38, 3) := by decide +kernel
theorem dX8_dutyCount_25 : decode cX8_dutyCount 25 = .ok (.getfield 167, 3) := by decide +kernel
theorem dX8_dutyCount_28 : decode cX8_dutyCount 28 = .ok (.ireturn, 1) := by decide +kernel
theorem dX8_duty_0 : decode cX8_duty 0 = .ok (.aload_n 0, 1) := by decide +kernel
theorem dX8_duty_1 : decode cX8_duty 1 = .ok (.getfield 10, 3) := by decide +kernel
theorem dX8_duty_4 : decode cX8_duty 4 = .ok (.iload_n 1, 1) := by decide +kernel
theorem dX8_duty_5 : decode cX8_duty 5 = .ok (.invokevirtual 141, 3) := by decide +kernel
theorem dX8_duty_8 : decode cX8_duty 8 = .ok (.ifCond .eq 12, 3) := by decide +kernel
theorem dX8_duty_11 : decode cX8_duty 11 = .ok (.iload_n 3, 1) := by decide +kernel
theorem dX8_duty_12 : decode cX8_duty 12 = .ok (.iconst 0, 1) := by decide +kernel
theorem dX8_duty_13 : decode cX8_duty 13 = .ok (.iconst 3, 1) := by decide +kernel
theorem dX8_duty_14 : decode cX8_duty 14 = .ok (.invokestatic 127, 3) := by decide +kernel
theorem dX8_duty_17 : decode cX8_duty 17 = .ok (.ifCond .ne 5, 3) := by decide +kernel
theorem dX8_duty_20 : decode cX8_duty 20 = .ok (.iconst (-1), 1) := by decide +kernel
theorem dX8_duty_21 : decode cX8_duty 21 = .ok (.ireturn, 1) := by decide +kernel
theorem dX8_duty_22 : decode cX8_duty 22 = .ok (.aload_n 0, 1) := by decide +kernel
theorem dX8_duty_23 : decode cX8_duty 23 = .ok (.getfield 38, 3) := by decide +kernel
theorem dX8_duty_26 : decode cX8_duty 26 = .ok (.iload_n 1, 1) := by decide +kernel
theorem dX8_duty_27 : decode cX8_duty 27 = .ok (.invokevirtual 150, 3) := by decide +kernel
theorem dX8_duty_30 : decode cX8_duty 30 = .ok (.iload_n 2, 1) := by decide +kernel
theorem dX8_duty_31 : decode cX8_duty 31 = .ok (.iconst 0, 1) := by decide +kernel
theorem dX8_duty_32 : decode cX8_duty 32 = .ok (.aload_n 0, 1) := by decide +kernel
theorem dX8_duty_33 : decode cX8_duty 33 = .ok (.getfield 38, 3) := by decide +kernel
theorem dX8_duty_36 : decode cX8_duty 36 = .ok (.getfield 167, 3) := by decide +kernel
theorem dX8_duty_39 : decode cX8_duty 39 = .ok (.iconst 1, 1) := by decide +kernel
theorem dX8_duty_40 : decode cX8_duty 40 = .ok (.isub, 1) := by decide +kernel
theorem dX8_duty_41 : decode cX8_duty 41 = .ok (.invokestatic 127, 3) := by decide +kernel
theorem dX8_duty_44 : decode cX8_duty 44 = .ok (.ifCond .ne 6, 3) := by decide +kernel
theorem dX8_duty_47 : decode cX8_duty 47 = .ok (.bipush (-2), 2) := by decide +kernel
theorem dX8_duty_49 : decode cX8_duty 49 = .ok (.ireturn, 1) := by decide +kernel
theorem dX8_duty_50 : decode cX8_duty 50 = .ok (.iload_n 3, 1) := by decide +kernel
theorem dX8_duty_51 : decode cX8_duty 51 = .ok (.tableswitch 53 0 2 #[25, 34, 44], 25) := by decide +kernel
theorem dX8_duty_76 : decode cX8_duty 76 = .ok (.aload_n 0, 1) := by decide +kernel
theorem dX8_duty_77 : decode cX8_duty 77 = .ok (.getfield 38, 3) := by decide +kernel
theorem dX8_duty_80 : decode cX8_duty 80 = .ok (.iload_n 2, 1) := by decide +kernel
theorem dX8_duty_81 : decode cX8_duty 81 = .ok (.invokevirtual 170, 3) := by decide +kernel
theorem dX8_duty_84 : decode cX8_duty 84 = .ok (.ireturn, 1) := by decide +kernel
theorem dX8_duty_85 : decode cX8_duty 85 = .ok (.aload_n 0, 1) := by decide +kernel
theorem dX8_duty_86 : decode cX8_duty 86 = .ok (.getfield 38, 3) := by decide +kernel
theorem dX8_duty_89 : decode cX8_duty 89 = .ok (.getfield 173, 3) := by decide +kernel
theorem dX8_duty_92 : decode cX8_duty 92 = .ok (.iload_n 2, 1) := by decide +kernel
theorem dX8_duty_93 : decode cX8_duty 93 = .ok (.iaload, 1) := by decide +kernel
theorem dX8_duty_94 : decode cX8_duty 94 = .ok (.ireturn, 1) := by decide +kernel
theorem dX8_duty_95 : decode cX8_duty 95 = .ok (.aload_n 0, 1) := by decide +kernel
theorem dX8_duty_96 : decode cX8_duty 96 = .ok (.getfield 38, 3) := by decide +kernel
theorem dX8_duty_99 : decode cX8_duty 99 = .ok (.iload_n 2, 1) := by decide +kernel
theorem dX8_duty_100 : decode cX8_duty 100 = .ok (.invokevirtual 176, 3) := by decide +kernel
theorem dX8_duty_103 : decode cX8_duty 103 = .ok (.ireturn, 1) := by decide +kernel
theorem dX8_duty_104 : decode cX8_duty 104 = .ok (.aload_n 0, 1) := by decide +kernel
theorem dX8_duty_105 : decode cX8_duty 105 = .ok (.getfield 38, 3) := by decide +kernel
theorem dX8_duty_108 : decode cX8_duty 108 = .ok (.getfield 179, 3) := by decide +kernel
theorem dX8_duty_111 : decode cX8_duty 111 = .ok (.iload_n 2, 1) := by decide +kernel
theorem dX8_duty_112 : decode cX8_duty 112 = .ok (.iaload, 1) := by decide +kernel
theorem dX8_duty_113 : decode cX8_duty 113 = .ok (.ireturn, 1) := by decide +kernel
theorem dX8_violationCount_0 : decode cX8_violationCount 0 = .ok (.aload_n 0, 1) := by decide +kernel
theorem dX8_violationCount_1 : decode cX8_violationCount 1 = .ok (.getfield 10, 3) := by decide +kernel
theorem dX8_violationCount_4 : decode cX8_violationCount 4 = .ok (.iload_n 1, 1) := by decide +kernel
theorem dX8_violationCount_5 : decode cX8_violationCount 5 = .ok (.invokevirtual 141, 3) := by decide +kernel
theorem dX8_violationCount_8 : decode cX8_violationCount 8 = .ok (.ifCond .ne 5, 3) := by decide +kernel
theorem dX8_violationCount_11 : decode cX8_violationCount 11 = .ok (.iconst (-1), 1) := by decide +kernel
theorem dX8_violationCount_12 : decode cX8_violationCount 12 = .ok (.ireturn, 1) := by decide +kernel
theorem dX8_violationCount_13 : decode cX8_violationCount 13 = .ok (.aload_n 0, 1) := by decide +kernel
theorem dX8_violationCount_14 : decode cX8_violationCount 14 = .ok (.getfield 38, 3) := by decide +kernel
theorem dX8_violationCount_17 : decode cX8_violationCount 17 = .ok (.iload_n 1, 1) := by decide +kernel
theorem dX8_violationCount_18 : decode cX8_violationCount 18 = .ok (.invokevirtual 150, 3) := by decide +kernel
theorem dX8_violationCount_21 : decode cX8_violationCount 21 = .ok (.aload_n 0, 1) := by decide +kernel
theorem dX8_violationCount_22 : decode cX8_violationCount 22 = .ok (.getfield 38, 3) := by decide +kernel
theorem dX8_violationCount_25 : decode cX8_violationCount 25 = .ok (.sipush 168, 3) := by decide +kernel
theorem dX8_violationCount_28 : decode cX8_violationCount 28 = .ok (.invokevirtual 182, 3) := by decide +kernel
theorem dX8_violationCount_31 : decode cX8_violationCount 31 = .ok (.ireturn, 1) := by decide +kernel
theorem dX8_violation_0 : decode cX8_violation 0 = .ok (.aload_n 0, 1) := by decide +kernel
theorem dX8_violation_1 : decode cX8_violation 1 = .ok (.getfield 10, 3) := by decide +kernel
theorem dX8_violation_4 : decode cX8_violation 4 = .ok (.iload_n 1, 1) := by decide +kernel
theorem dX8_violation_5 : decode cX8_violation 5 = .ok (.invokevirtual 141, 3) := by decide +kernel
theorem dX8_violation_8 : decode cX8_violation 8 = .ok (.ifCond .eq 12, 3) := by decide +kernel
theorem dX8_violation_11 : decode cX8_violation 11 = .ok (.iload_n 3, 1) := by decide +kernel
theorem dX8_violation_12 : decode cX8_violation 12 = .ok (.iconst 0, 1) := by decide +kernel
theorem dX8_violation_13 : decode cX8_violation 13 = .ok (.iconst 1, 1) := by decide +kernel
theorem dX8_violation_14 : decode cX8_violation 14 = .ok (.invokestatic 127, 3) := by decide +kernel
theorem dX8_violation_17 : decode cX8_violation 17 = .ok (.ifCond .ne 5, 3) := by decide +kernel
theorem dX8_violation_20 : decode cX8_violation 20 = .ok (.iconst (-1), 1) := by decide +kernel
theorem dX8_violation_21 : decode cX8_violation 21 = .ok (.ireturn, 1) := by decide +kernel
theorem dX8_violation_22 : decode cX8_violation 22 = .ok (.aload_n 0, 1) := by decide +kernel
theorem dX8_violation_23 : decode cX8_violation 23 = .ok (.getfield 38, 3) := by decide +kernel
theorem dX8_violation_26 : decode cX8_violation 26 = .ok (.iload_n 1, 1) := by decide +kernel
theorem dX8_violation_27 : decode cX8_violation 27 = .ok (.invokevirtual 150, 3) := by decide +kernel
theorem dX8_violation_30 : decode cX8_violation 30 = .ok (.aload_n 0, 1) := by decide +kernel
theorem dX8_violation_31 : decode cX8_violation 31 = .ok (.getfield 38, 3) := by decide +kernel
theorem dX8_violation_34 : decode cX8_violation 34 = .ok (.sipush 168, 3) := by decide +kernel
theorem dX8_violation_37 : decode cX8_violation 37 = .ok (.invokevirtual 182, 3) := by decide +kernel
theorem dX8_violation_40 : decode cX8_violation 40 = .ok (.istore 4, 2) := by decide +kernel
theorem dX8_violation_42 : decode cX8_violation 42 = .ok (.iload_n 2, 1) := by decide +kernel
theorem dX8_violation_43 : decode cX8_violation 43 = .ok (.iconst 0, 1) := by decide +kernel
theorem dX8_violation_44 : decode cX8_violation 44 = .ok (.iload 4, 2) := by decide +kernel
theorem dX8_violation_46 : decode cX8_violation 46 = .ok (.iconst 1, 1) := by decide +kernel
theorem dX8_violation_47 : decode cX8_violation 47 = .ok (.isub, 1) := by decide +kernel
theorem dX8_violation_48 : decode cX8_violation 48 = .ok (.invokestatic 127, 3) := by decide +kernel
theorem dX8_violation_51 : decode cX8_violation 51 = .ok (.ifCond .ne 6, 3) := by decide +kernel
theorem dX8_violation_54 : decode cX8_violation 54 = .ok (.bipush (-2), 2) := by decide +kernel
theorem dX8_violation_56 : decode cX8_violation 56 = .ok (.ireturn, 1) := by decide +kernel
theorem dX8_violation_57 : decode cX8_violation 57 = .ok (.iload_n 3, 1) := by decide +kernel
theorem dX8_violation_58 : decode cX8_violation 58 = .ok (.ifCond .ne 15, 3) := by decide +kernel
theorem dX8_violation_61 : decode cX8_violation 61 = .ok (.aload_n 0, 1) := by decide +kernel
theorem dX8_violation_62 : decode cX8_violation 62 = .ok (.getfield 38, 3) := by decide +kernel
theorem dX8_violation_65 : decode cX8_violation 65 = .ok (.getfield 185, 3) := by decide +kernel
theorem dX8_violation_68 : decode cX8_violation 68 = .ok (.iload_n 2, 1) := by decide +kernel
theorem dX8_violation_69 : decode cX8_violation 69 = .ok (.iaload, 1) := by decide +kernel
theorem dX8_violation_70 : decode cX8_violation 70 = .ok (.goto 12, 3) := by decide +kernel
theorem dX8_violation_73 : decode cX8_violation 73 = .ok (.aload_n 0, 1) := by decide +kernel
theorem dX8_violation_74 : decode cX8_violation 74 = .ok (.getfield 38, 3) := by decide +kernel
theorem dX8_violation_77 : decode cX8_violation 77 = .ok (.getfield 147, 3) := by decide +kernel
theorem dX8_violation_80 : decode cX8_violation 80 = .ok (.iload_n 2, 1) := by decide +kernel
theorem dX8_violation_81 : decode cX8_violation 81 = .ok (.iaload, 1) := by decide +kernel
theorem dX8_violation_82 : decode cX8_violation 82 = .ok (.ireturn, 1) := by decide +kernel
theorem dX8_minutes_0 : decode cX8_minutes 0 = .ok (.aload_n 0, 1) := by decide +kernel
theorem dX8_minutes_1 : decode cX8_minutes 1 = .ok (.getfield 10, 3) := by decide +kernel
theorem dX8_minutes_4 : decode cX8_minutes 4 = .ok (.iload_n 1, 1) := by decide +kernel
theorem dX8_minutes_5 : decode cX8_minutes 5 = .ok (.invokevirtual 141, 3) := by decide +kernel
theorem dX8_minutes_8 : decode cX8_minutes 8 = .ok (.ifCond .ne 5, 3) := by decide +kernel
theorem dX8_minutes_11 : decode cX8_minutes 11 = .ok (.iconst (-1), 1) := by decide +kernel
theorem dX8_minutes_12 : decode cX8_minutes 12 = .ok (.ireturn, 1) := by decide +kernel
theorem dX8_minutes_13 : decode cX8_minutes 13 = .ok (.aload_n 0, 1) := by decide +kernel
theorem dX8_minutes_14 : decode cX8_minutes 14 = .ok (.getfield 10, 3) := by decide +kernel
theorem dX8_minutes_17 : decode cX8_minutes 17 = .ok (.iload_n 1, 1) := by decide +kernel
theorem dX8_minutes_18 : decode cX8_minutes 18 = .ok (.invokevirtual 188, 3) := by decide +kernel
theorem dX8_minutes_21 : decode cX8_minutes 21 = .ok (.ireturn, 1) := by decide +kernel
theorem dX8_within_0 : decode cX8_within 0 = .ok (.aload_n 0, 1) := by decide +kernel
theorem dX8_within_1 : decode cX8_within 1 = .ok (.getfield 10, 3) := by decide +kernel
theorem dX8_within_4 : decode cX8_within 4 = .ok (.iload_n 1, 1) := by decide +kernel
theorem dX8_within_5 : decode cX8_within 5 = .ok (.invokevirtual 141, 3) := by decide +kernel
theorem dX8_within_8 : decode cX8_within 8 = .ok (.ifCond .eq 25, 3) := by decide +kernel
theorem dX8_within_11 : decode cX8_within 11 = .ok (.iload_n 2, 1) := by decide +kernel
theorem dX8_within_12 : decode cX8_within 12 = .ok (.iconst 0, 1) := by decide +kernel
theorem dX8_within_13 : decode cX8_within 13 = .ok (.sipush 5999, 3) := by decide +kernel
theorem dX8_within_16 : decode cX8_within 16 = .ok (.invokestatic 127, 3) := by decide +kernel
theorem dX8_within_19 : decode cX8_within 19 = .ok (.ifCond .eq 14, 3) := by decide +kernel
theorem dX8_within_22 : decode cX8_within 22 = .ok (.iload_n 3, 1) := by decide +kernel
theorem dX8_within_23 : decode cX8_within 23 = .ok (.iconst 1, 1) := by decide +kernel
theorem dX8_within_24 : decode cX8_within 24 = .ok (.sipush 6000, 3) := by decide +kernel
theorem dX8_within_27 : decode cX8_within 27 = .ok (.invokestatic 127, 3) := by decide +kernel
theorem dX8_within_30 : decode cX8_within 30 = .ok (.ifCond .ne 5, 3) := by decide +kernel
theorem dX8_within_33 : decode cX8_within 33 = .ok (.iconst (-1), 1) := by decide +kernel
theorem dX8_within_34 : decode cX8_within 34 = .ok (.ireturn, 1) := by decide +kernel
theorem dX8_within_35 : decode cX8_within 35 = .ok (.aload_n 0, 1) := by decide +kernel
theorem dX8_within_36 : decode cX8_within 36 = .ok (.getfield 38, 3) := by decide +kernel
theorem dX8_within_39 : decode cX8_within 39 = .ok (.iload_n 1, 1) := by decide +kernel
theorem dX8_within_40 : decode cX8_within 40 = .ok (.invokevirtual 150, 3) := by decide +kernel
theorem dX8_within_43 : decode cX8_within 43 = .ok (.aload_n 0, 1) := by decide +kernel
theorem dX8_within_44 : decode cX8_within 44 = .ok (.getfield 38, 3) := by decide +kernel
theorem dX8_within_47 : decode cX8_within 47 = .ok (.iload_n 2, 1) := by decide +kernel
theorem dX8_within_48 : decode cX8_within 48 = .ok (.iload_n 3, 1) := by decide +kernel
theorem dX8_within_49 : decode cX8_within 49 = .ok (.invokevirtual 191, 3) := by decide +kernel
theorem dX8_within_52 : decode cX8_within 52 = .ok (.ireturn, 1) := by decide +kernel
theorem dX8_home_0 : decode cX8_home 0 = .ok (.aload_n 0, 1) := by decide +kernel
theorem dX8_home_1 : decode cX8_home 1 = .ok (.getfield 10, 3) := by decide +kernel
theorem dX8_home_4 : decode cX8_home 4 = .ok (.iload_n 1, 1) := by decide +kernel
theorem dX8_home_5 : decode cX8_home 5 = .ok (.invokevirtual 141, 3) := by decide +kernel
theorem dX8_home_8 : decode cX8_home 8 = .ok (.ifCond .ne 5, 3) := by decide +kernel
theorem dX8_home_11 : decode cX8_home 11 = .ok (.iconst (-1), 1) := by decide +kernel
theorem dX8_home_12 : decode cX8_home 12 = .ok (.ireturn, 1) := by decide +kernel
theorem dX8_home_13 : decode cX8_home 13 = .ok (.aload_n 0, 1) := by decide +kernel
theorem dX8_home_14 : decode cX8_home 14 = .ok (.getfield 38, 3) := by decide +kernel
theorem dX8_home_17 : decode cX8_home 17 = .ok (.iload_n 1, 1) := by decide +kernel
theorem dX8_home_18 : decode cX8_home 18 = .ok (.invokevirtual 150, 3) := by decide +kernel
theorem dX8_home_21 : decode cX8_home 21 = .ok (.aload_n 0, 1) := by decide +kernel
theorem dX8_home_22 : decode cX8_home 22 = .ok (.getfield 38, 3) := by decide +kernel
theorem dX8_home_25 : decode cX8_home 25 = .ok (.invokevirtual 194, 3) := by decide +kernel
theorem dX8_home_28 : decode cX8_home 28 = .ok (.ifCond .eq 7, 3) := by decide +kernel
theorem dX8_home_31 : decode cX8_home 31 = .ok (.iconst 1, 1) := by decide +kernel
theorem dX8_home_32 : decode cX8_home 32 = .ok (.goto 4, 3) := by decide +kernel
theorem dX8_home_35 : decode cX8_home 35 = .ok (.iconst 0, 1) := by decide +kernel
theorem dX8_home_36 : decode cX8_home 36 = .ok (.ireturn, 1) := by decide +kernel
theorem dX8_pairings_0 : decode cX8_pairings 0 = .ok (.aload_n 0, 1) := by decide +kernel
theorem dX8_pairings_1 : decode cX8_pairings 1 = .ok (.getfield 10, 3) := by decide +kernel
theorem dX8_pairings_4 : decode cX8_pairings 4 = .ok (.iload_n 1, 1) := by decide +kernel
theorem dX8_pairings_5 : decode cX8_pairings 5 = .ok (.invokevirtual 141, 3) := by decide +kernel
theorem dX8_pairings_8 : decode cX8_pairings 8 = .ok (.ifCond .ne 5, 3) := by decide +kernel
theorem dX8_pairings_11 : decode cX8_pairings 11 = .ok (.iconst (-1), 1) := by decide +kernel
theorem dX8_pairings_12 : decode cX8_pairings 12 = .ok (.ireturn, 1) := by decide +kernel
theorem dX8_pairings_13 : decode cX8_pairings 13 = .ok (.aload_n 0, 1) := by decide +kernel
theorem dX8_pairings_14 : decode cX8_pairings 14 = .ok (.getfield 38, 3) := by decide +kernel
theorem dX8_pairings_17 : decode cX8_pairings 17 = .ok (.iload_n 1, 1) := by decide +kernel
theorem dX8_pairings_18 : decode cX8_pairings 18 = .ok (.invokevirtual 150, 3) := by decide +kernel
theorem dX8_pairings_21 : decode cX8_pairings 21 = .ok (.aload_n 0, 1) := by decide +kernel
theorem dX8_pairings_22 : decode cX8_pairings 22 = .ok (.getfield 38, 3) := by decide +kernel
theorem dX8_pairings_25 : decode cX8_pairings 25 = .ok (.invokevirtual 198, 3) := by decide +kernel
theorem dX8_pairings_28 : decode cX8_pairings 28 = .ok (.ireturn, 1) := by decide +kernel
theorem dX8_cost_0 : decode cX8_cost 0 = .ok (.iload_n 2, 1) := by decide +kernel
theorem dX8_cost_1 : decode cX8_cost 1 = .ok (.iconst 0, 1) := by decide +kernel
theorem dX8_cost_2 : decode cX8_cost 2 = .ok (.iconst 2, 1) := by decide +kernel
theorem dX8_cost_3 : decode cX8_cost 3 = .ok (.invokestatic 127, 3) := by decide +kernel
theorem dX8_cost_6 : decode cX8_cost 6 = .ok (.ifCond .eq 19, 3) := by decide +kernel
theorem dX8_cost_9 : decode cX8_cost 9 = .ok (.iload_n 1, 1) := by decide +kernel
theorem dX8_cost_10 : decode cX8_cost 10 = .ok (.iconst (-1), 1) := by decide +kernel
theorem dX8_cost_11 : decode cX8_cost 11 = .ok (.if_icmp .eq 16, 3) := by decide +kernel
theorem dX8_cost_14 : decode cX8_cost 14 = .ok (.aload_n 0, 1) := by decide +kernel
theorem dX8_cost_15 : decode cX8_cost 15 = .ok (.getfield 10, 3) := by decide +kernel
theorem dX8_cost_18 : decode cX8_cost 18 = .ok (.iload_n 1, 1) := by decide +kernel
theorem dX8_cost_19 : decode cX8_cost 19 = .ok (.invokevirtual 141, 3) := by decide +kernel
theorem dX8_cost_22 : decode cX8_cost 22 = .ok (.ifCond .ne 5, 3) := by decide +kernel
theorem dX8_cost_25 : decode cX8_cost 25 = .ok (.iconst (-1), 1) := by decide +kernel
theorem dX8_cost_26 : decode cX8_cost 26 = .ok (.ireturn, 1) := by decide +kernel
theorem dX8_cost_27 : decode cX8_cost 27 = .ok (.iload_n 1, 1) := by decide +kernel
theorem dX8_cost_28 : decode cX8_cost 28 = .ok (.iconst (-1), 1) := by decide +kernel
theorem dX8_cost_29 : decode cX8_cost 29 = .ok (.if_icmp .eq 10, 3) := by decide +kernel
theorem dX8_cost_32 : decode cX8_cost 32 = .ok (.aload_n 0, 1) := by decide +kernel
theorem dX8_cost_33 : decode cX8_cost 33 = .ok (.iload_n 1, 1) := by decide +kernel
theorem dX8_cost_34 : decode cX8_cost 34 = .ok (.iload_n 2, 1) := by decide +kernel
theorem dX8_cost_35 : decode cX8_cost 35 = .ok (.invokevirtual 202, 3) := by decide +kernel
theorem dX8_cost_38 : decode cX8_cost 38 = .ok (.ireturn, 1) := by decide +kernel
theorem dX8_cost_39 : decode cX8_cost 39 = .ok (.iconst 0, 1) := by decide +kernel
theorem dX8_cost_40 : decode cX8_cost 40 = .ok (.istore_n 3, 1) := by decide +kernel
theorem dX8_cost_41 : decode cX8_cost 41 = .ok (.iconst 0, 1) := by decide +kernel
theorem dX8_cost_42 : decode cX8_cost 42 = .ok (.istore 4, 2) := by decide +kernel
theorem dX8_cost_44 : decode cX8_cost 44 = .ok (.iload 4, 2) := by decide +kernel
theorem dX8_cost_46 : decode cX8_cost 46 = .ok (.aload_n 0, 1) := by decide +kernel
theorem dX8_cost_47 : decode cX8_cost 47 = .ok (.getfield 10, 3) := by decide +kernel
theorem dX8_cost_50 : decode cX8_cost 50 = .ok (.getfield 97, 3) := by decide +kernel
theorem dX8_cost_53 : decode cX8_cost 53 = .ok (.if_icmp .ge 19, 3) := by decide +kernel
theorem dX8_cost_56 : decode cX8_cost 56 = .ok (.iload_n 3, 1) := by decide +kernel
theorem dX8_cost_57 : decode cX8_cost 57 = .ok (.aload_n 0, 1) := by decide +kernel
theorem dX8_cost_58 : decode cX8_cost 58 = .ok (.iload 4, 2) := by decide +kernel
theorem dX8_cost_60 : decode cX8_cost 60 = .ok (.iload_n 2, 1) := by decide +kernel
theorem dX8_cost_61 : decode cX8_cost 61 = .ok (.invokevirtual 202, 3) := by decide +kernel
theorem dX8_cost_64 : decode cX8_cost 64 = .ok (.iadd, 1) := by decide +kernel
theorem dX8_cost_65 : decode cX8_cost 65 = .ok (.istore_n 3, 1) := by decide +kernel
theorem dX8_cost_66 : decode cX8_cost 66 = .ok (.iinc 4 1, 3) := by decide +kernel
theorem dX8_cost_69 : decode cX8_cost 69 = .ok (.goto (-25), 3) := by decide +kernel
theorem dX8_cost_72 : decode cX8_cost 72 = .ok (.iload_n 3, 1) := by decide +kernel
theorem dX8_cost_73 : decode cX8_cost 73 = .ok (.ireturn, 1) := by decide +kernel
theorem dX8_openCount_0 : decode cX8_openCount 0 = .ok (.iconst 0, 1) := by decide +kernel
theorem dX8_openCount_1 : decode cX8_openCount 1 = .ok (.istore_n 1, 1) := by decide +kernel
theorem dX8_openCount_2 : decode cX8_openCount 2 = .ok (.iconst 0, 1) := by decide +kernel
theorem dX8_openCount_3 : decode cX8_openCount 3 = .ok (.istore_n 2, 1) := by decide +kernel
theorem dX8_openCount_4 : decode cX8_openCount 4 = .ok (.iload_n 2, 1) := by decide +kernel
theorem dX8_openCount_5 : decode cX8_openCount 5 = .ok (.aload_n 0, 1) := by decide +kernel
theorem dX8_openCount_6 : decode cX8_openCount 6 = .ok (.getfield 10, 3) := by decide +kernel
theorem dX8_openCount_9 : decode cX8_openCount 9 = .ok (.getfield 93, 3) := by decide +kernel
theorem dX8_openCount_12 : decode cX8_openCount 12 = .ok (.if_icmp .ge 23, 3) := by decide +kernel
theorem dX8_openCount_15 : decode cX8_openCount 15 = .ok (.aload_n 0, 1) := by decide +kernel
theorem dX8_openCount_16 : decode cX8_openCount 16 = .ok (.getfield 10, 3) := by decide +kernel
theorem dX8_openCount_19 : decode cX8_openCount 19 = .ok (.iload_n 2, 1) := by decide +kernel
theorem dX8_openCount_20 : decode cX8_openCount 20 = .ok (.invokevirtual 205, 3) := by decide +kernel
theorem dX8_openCount_23 : decode cX8_openCount 23 = .ok (.ifCond .eq 6, 3) := by decide +kernel
theorem dX8_openCount_26 : decode cX8_openCount 26 = .ok (.iinc 1 1, 3) := by decide +kernel
theorem dX8_openCount_29 : decode cX8_openCount 29 = .ok (.iinc 2 1, 3) := by decide +kernel
theorem dX8_openCount_32 : decode cX8_openCount 32 = .ok (.goto (-28), 3) := by decide +kernel
theorem dX8_openCount_35 : decode cX8_openCount 35 = .ok (.iload_n 1, 1) := by decide +kernel
theorem dX8_openCount_36 : decode cX8_openCount 36 = .ok (.ireturn, 1) := by decide +kernel
theorem dX8_open_0 : decode cX8_open 0 = .ok (.iconst 0, 1) := by decide +kernel
theorem dX8_open_1 : decode cX8_open 1 = .ok (.istore_n 2, 1) := by decide +kernel
theorem dX8_open_2 : decode cX8_open 2 = .ok (.iconst 0, 1) := by decide +kernel
theorem dX8_open_3 : decode cX8_open 3 = .ok (.istore_n 3, 1) := by decide +kernel
theorem dX8_open_4 : decode cX8_open 4 = .ok (.iload_n 3, 1) := by decide +kernel
theorem dX8_open_5 : decode cX8_open 5 = .ok (.aload_n 0, 1) := by decide +kernel
theorem dX8_open_6 : decode cX8_open 6 = .ok (.getfield 10, 3) := by decide +kernel
theorem dX8_open_9 : decode cX8_open 9 = .ok (.getfield 93, 3) := by decide +kernel
theorem dX8_open_12 : decode cX8_open 12 = .ok (.if_icmp .ge 43, 3) := by decide +kernel
theorem dX8_open_15 : decode cX8_open 15 = .ok (.aload_n 0, 1) := by decide +kernel
theorem dX8_open_16 : decode cX8_open 16 = .ok (.getfield 10, 3) := by decide +kernel
theorem dX8_open_19 : decode cX8_open 19 = .ok (.getfield 208, 3) := by decide +kernel
theorem dX8_open_22 : decode cX8_open 22 = .ok (.iload_n 3, 1) := by decide +kernel
theorem dX8_open_23 : decode cX8_open 23 = .ok (.iaload, 1) := by decide +kernel
theorem dX8_open_24 : decode cX8_open 24 = .ok (.istore 4, 2) := by decide +kernel
theorem dX8_open_26 : decode cX8_open 26 = .ok (.aload_n 0, 1) := by decide +kernel
theorem dX8_open_27 : decode cX8_open 27 = .ok (.getfield 10, 3) := by decide +kernel
theorem dX8_open_30 : decode cX8_open 30 = .ok (.iload 4, 2) := by decide +kernel
theorem dX8_open_32 : decode cX8_open 32 = .ok (.invokevirtual 205, 3) := by decide +kernel
theorem dX8_open_35 : decode cX8_open 35 = .ok (.ifCond .eq 14, 3) := by decide +kernel
theorem dX8_open_38 : decode cX8_open 38 = .ok (.iload_n 2, 1) := by decide +kernel
theorem dX8_open_39 : decode cX8_open 39 = .ok (.iload_n 1, 1) := by decide +kernel
theorem dX8_open_40 : decode cX8_open 40 = .ok (.if_icmp .ne 6, 3) := by decide +kernel
theorem dX8_open_43 : decode cX8_open 43 = .ok (.iload 4, 2) := by decide +kernel
theorem dX8_open_45 : decode cX8_open 45 = .ok (.ireturn, 1) := by decide +kernel
theorem dX8_open_46 : decode cX8_open 46 = .ok (.iinc 2 1, 3) := by decide +kernel
theorem dX8_open_49 : decode cX8_open 49 = .ok (.iinc 3 1, 3) := by decide +kernel
theorem dX8_open_52 : decode cX8_open 52 = .ok (.goto (-48), 3) := by decide +kernel
theorem dX8_open_55 : decode cX8_open 55 = .ok (.bipush (-2), 2) := by decide +kernel
theorem dX8_open_57 : decode cX8_open 57 = .ok (.ireturn, 1) := by decide +kernel
theorem dX8_delay_0 : decode cX8_delay 0 = .ok (.aload_n 0, 1) := by decide +kernel
theorem dX8_delay_1 : decode cX8_delay 1 = .ok (.getfield 16, 3) := by decide +kernel
theorem dX8_delay_4 : decode cX8_delay 4 = .ok (.aload_n 0, 1) := by decide +kernel
theorem dX8_delay_5 : decode cX8_delay 5 = .ok (.getfield 10, 3) := by decide +kernel
theorem dX8_delay_8 : decode cX8_delay 8 = .ok (.invokevirtual 79, 3) := by decide +kernel
theorem dX8_delay_11 : decode cX8_delay 11 = .ok (.aload_n 0, 1) := by decide +kernel
theorem dX8_delay_12 : decode cX8_delay 12 = .ok (.aload_n 0, 1) := by decide +kernel
theorem dX8_delay_13 : decode cX8_delay 13 = .ok (.iload_n 1, 1) := by decide +kernel
theorem dX8_delay_14 : decode cX8_delay 14 = .ok (.iload_n 2, 1) := by decide +kernel
theorem dX8_delay_15 : decode cX8_delay 15 = .ok (.invokevirtual 211, 3) := by decide +kernel
theorem dX8_delay_18 : decode cX8_delay 18 = .ok (.invokevirtual 86, 3) := by decide +kernel
theorem dX8_delay_21 : decode cX8_delay 21 = .ok (.ireturn, 1) := by decide +kernel
theorem dX8_cancel_0 : decode cX8_cancel 0 = .ok (.aload_n 0, 1) := by decide +kernel
theorem dX8_cancel_1 : decode cX8_cancel 1 = .ok (.getfield 16, 3) := by decide +kernel
theorem dX8_cancel_4 : decode cX8_cancel 4 = .ok (.aload_n 0, 1) := by decide +kernel
theorem dX8_cancel_5 : decode cX8_cancel 5 = .ok (.getfield 10, 3) := by decide +kernel
theorem dX8_cancel_8 : decode cX8_cancel 8 = .ok (.invokevirtual 79, 3) := by decide +kernel
theorem dX8_cancel_11 : decode cX8_cancel 11 = .ok (.aload_n 0, 1) := by decide +kernel
theorem dX8_cancel_12 : decode cX8_cancel 12 = .ok (.aload_n 0, 1) := by decide +kernel
theorem dX8_cancel_13 : decode cX8_cancel 13 = .ok (.iload_n 1, 1) := by decide +kernel
theorem dX8_cancel_14 : decode cX8_cancel 14 = .ok (.invokevirtual 214, 3) := by decide +kernel
theorem dX8_cancel_17 : decode cX8_cancel 17 = .ok (.invokevirtual 86, 3) := by decide +kernel
theorem dX8_cancel_20 : decode cX8_cancel 20 = .ok (.ireturn, 1) := by decide +kernel
theorem dX8_setReserve_0 : decode cX8_setReserve 0 = .ok (.aload_n 0, 1) := by decide +kernel
theorem dX8_setReserve_1 : decode cX8_setReserve 1 = .ok (.getfield 16, 3) := by decide +kernel
theorem dX8_setReserve_4 : decode cX8_setReserve 4 = .ok (.aload_n 0, 1) := by decide +kernel
theorem dX8_setReserve_5 : decode cX8_setReserve 5 = .ok (.getfield 10, 3) := by decide +kernel
theorem dX8_setReserve_8 : decode cX8_setReserve 8 = .ok (.invokevirtual 79, 3) := by decide +kernel
theorem dX8_setReserve_11 : decode cX8_setReserve 11 = .ok (.aload_n 0, 1) := by decide +kernel
theorem dX8_setReserve_12 : decode cX8_setReserve 12 = .ok (.aload_n 0, 1) := by decide +kernel
theorem dX8_setReserve_13 : decode cX8_setReserve 13 = .ok (.iload_n 1, 1) := by decide +kernel
theorem dX8_setReserve_14 : decode cX8_setReserve 14 = .ok (.iload_n 2, 1) := by decide +kernel
theorem dX8_setReserve_15 : decode cX8_setReserve 15 = .ok (.iload_n 3, 1) := by decide +kernel
theorem dX8_setReserve_16 : decode cX8_setReserve 16 = .ok (.invokevirtual 217, 3) := by decide +kernel
theorem dX8_setReserve_19 : decode cX8_setReserve 19 = .ok (.invokevirtual 86, 3) := by decide +kernel
theorem dX8_setReserve_22 : decode cX8_setReserve 22 = .ok (.ireturn, 1) := by decide +kernel
theorem dX8_reserve_0 : decode cX8_reserve 0 = .ok (.aload_n 0, 1) := by decide +kernel
theorem dX8_reserve_1 : decode cX8_reserve 1 = .ok (.getfield 10, 3) := by decide +kernel
theorem dX8_reserve_4 : decode cX8_reserve 4 = .ok (.iload_n 1, 1) := by decide +kernel
theorem dX8_reserve_5 : decode cX8_reserve 5 = .ok (.invokevirtual 141, 3) := by decide +kernel
theorem dX8_reserve_8 : decode cX8_reserve 8 = .ok (.ifCond .eq 12, 3) := by decide +kernel
theorem dX8_reserve_11 : decode cX8_reserve 11 = .ok (.iload_n 2, 1) := by decide +kernel
theorem dX8_reserve_12 : decode cX8_reserve 12 = .ok (.iconst 0, 1) := by decide +kernel
theorem dX8_reserve_13 : decode cX8_reserve 13 = .ok (.iconst 1, 1) := by decide +kernel
theorem dX8_reserve_14 : decode cX8_reserve 14 = .ok (.invokestatic 127, 3) := by decide +kernel
theorem dX8_reserve_17 : decode cX8_reserve 17 = .ok (.ifCond .ne 5, 3) := by decide +kernel
theorem dX8_reserve_20 : decode cX8_reserve 20 = .ok (.iconst (-1), 1) := by decide +kernel
theorem dX8_reserve_21 : decode cX8_reserve 21 = .ok (.ireturn, 1) := by decide +kernel
theorem dX8_reserve_22 : decode cX8_reserve 22 = .ok (.aload_n 0, 1) := by decide +kernel
theorem dX8_reserve_23 : decode cX8_reserve 23 = .ok (.getfield 10, 3) := by decide +kernel
theorem dX8_reserve_26 : decode cX8_reserve 26 = .ok (.iload_n 1, 1) := by decide +kernel
theorem dX8_reserve_27 : decode cX8_reserve 27 = .ok (.invokevirtual 220, 3) := by decide +kernel
theorem dX8_reserve_30 : decode cX8_reserve 30 = .ok (.ifCond .ne 6, 3) := by decide +kernel
theorem dX8_reserve_33 : decode cX8_reserve 33 = .ok (.bipush (-2), 2) := by decide +kernel
theorem dX8_reserve_35 : decode cX8_reserve 35 = .ok (.ireturn, 1) := by decide +kernel
theorem dX8_reserve_36 : decode cX8_reserve 36 = .ok (.iload_n 2, 1) := by decide +kernel
theorem dX8_reserve_37 : decode cX8_reserve 37 = .ok (.ifCond .ne 15, 3) := by decide +kernel
theorem dX8_reserve_40 : decode cX8_reserve 40 = .ok (.aload_n 0, 1) := by decide +kernel
theorem dX8_reserve_41 : decode cX8_reserve 41 = .ok (.getfield 10, 3) := by decide +kernel
theorem dX8_reserve_44 : decode cX8_reserve 44 = .ok (.getfield 223, 3) := by decide +kernel
theorem dX8_reserve_47 : decode cX8_reserve 47 = .ok (.iload_n 1, 1) := by decide +kernel
theorem dX8_reserve_48 : decode cX8_reserve 48 = .ok (.iaload, 1) := by decide +kernel
theorem dX8_reserve_49 : decode cX8_reserve 49 = .ok (.goto 12, 3) := by decide +kernel
theorem dX8_reserve_52 : decode cX8_reserve 52 = .ok (.aload_n 0, 1) := by decide +kernel
theorem dX8_reserve_53 : decode cX8_reserve 53 = .ok (.getfield 10, 3) := by decide +kernel
theorem dX8_reserve_56 : decode cX8_reserve 56 = .ok (.getfield 226, 3) := by decide +kernel
theorem dX8_reserve_59 : decode cX8_reserve 59 = .ok (.iload_n 1, 1) := by decide +kernel
theorem dX8_reserve_60 : decode cX8_reserve 60 = .ok (.iaload, 1) := by decide +kernel
theorem dX8_reserve_61 : decode cX8_reserve 61 = .ok (.ireturn, 1) := by decide +kernel
theorem dX8_called_0 : decode cX8_called 0 = .ok (.aload_n 0, 1) := by decide +kernel
theorem dX8_called_1 : decode cX8_called 1 = .ok (.getfield 10, 3) := by decide +kernel
theorem dX8_called_4 : decode cX8_called 4 = .ok (.iload_n 1, 1) := by decide +kernel
theorem dX8_called_5 : decode cX8_called 5 = .ok (.invokevirtual 100, 3) := by decide +kernel
theorem dX8_called_8 : decode cX8_called 8 = .ok (.ifCond .ne 5, 3) := by decide +kernel
theorem dX8_called_11 : decode cX8_called 11 = .ok (.iconst (-1), 1) := by decide +kernel
theorem dX8_called_12 : decode cX8_called 12 = .ok (.ireturn, 1) := by decide +kernel
theorem dX8_called_13 : decode cX8_called 13 = .ok (.aload_n 0, 1) := by decide +kernel
theorem dX8_called_14 : decode cX8_called 14 = .ok (.iload_n 1, 1) := by decide +kernel
theorem dX8_called_15 : decode cX8_called 15 = .ok (.invokevirtual 229, 3) := by decide +kernel
theorem dX8_called_18 : decode cX8_called 18 = .ok (.ireturn, 1) := by decide +kernel
theorem dX8_pair_0 : decode cX8_pair 0 = .ok (.aload_n 0, 1) := by decide +kernel
theorem dX8_pair_1 : decode cX8_pair 1 = .ok (.getfield 16, 3) := by decide +kernel
theorem dX8_pair_4 : decode cX8_pair 4 = .ok (.aload_n 0, 1) := by decide +kernel
theorem dX8_pair_5 : decode cX8_pair 5 = .ok (.getfield 10, 3) := by decide +kernel
theorem dX8_pair_8 : decode cX8_pair 8 = .ok (.invokevirtual 79, 3) := by decide +kernel
theorem dX8_pair_11 : decode cX8_pair 11 = .ok (.aload_n 0, 1) := by decide +kernel
theorem dX8_pair_12 : decode cX8_pair 12 = .ok (.aload_n 0, 1) := by decide +kernel
theorem dX8_pair_13 : decode cX8_pair 13 = .ok (.invokevirtual 232, 3) := by decide +kernel
theorem dX8_pair_16 : decode cX8_pair 16 = .ok (.invokevirtual 86, 3) := by decide +kernel
theorem dX8_pair_19 : decode cX8_pair 19 = .ok (.ireturn, 1) := by decide +kernel
theorem dX8_offer_0 : decode cX8_offer 0 = .ok (.aload_n 0, 1) := by decide +kernel
theorem dX8_offer_1 : decode cX8_offer 1 = .ok (.getfield 10, 3) := by decide +kernel
theorem dX8_offer_4 : decode cX8_offer 4 = .ok (.iload_n 1, 1) := by decide +kernel
theorem dX8_offer_5 : decode cX8_offer 5 = .ok (.invokevirtual 100, 3) := by decide +kernel
theorem dX8_offer_8 : decode cX8_offer 8 = .ok (.ifCond .eq 12, 3) := by decide +kernel
theorem dX8_offer_11 : decode cX8_offer 11 = .ok (.iload_n 2, 1) := by decide +kernel
theorem dX8_offer_12 : decode cX8_offer 12 = .ok (.iconst 0, 1) := by decide +kernel
theorem dX8_offer_13 : decode cX8_offer 13 = .ok (.iconst 2, 1) := by decide +kernel
theorem dX8_offer_14 : decode cX8_offer 14 = .ok (.invokestatic 127, 3) := by decide +kernel
theorem dX8_offer_17 : decode cX8_offer 17 = .ok (.ifCond .ne 5, 3) := by decide +kernel
theorem dX8_offer_20 : decode cX8_offer 20 = .ok (.iconst (-1), 1) := by decide +kernel
theorem dX8_offer_21 : decode cX8_offer 21 = .ok (.ireturn, 1) := by decide +kernel
theorem dX8_offer_22 : decode cX8_offer 22 = .ok (.aload_n 0, 1) := by decide +kernel
theorem dX8_offer_23 : decode cX8_offer 23 = .ok (.iload_n 1, 1) := by decide +kernel
theorem dX8_offer_24 : decode cX8_offer 24 = .ok (.invokevirtual 235, 3) := by decide +kernel
theorem dX8_offer_27 : decode cX8_offer 27 = .ok (.aload_n 0, 1) := by decide +kernel
theorem dX8_offer_28 : decode cX8_offer 28 = .ok (.getfield 45, 3) := by decide +kernel
theorem dX8_offer_31 : decode cX8_offer 31 = .ok (.getfield 238, 3) := by decide +kernel
theorem dX8_offer_34 : decode cX8_offer 34 = .ok (.bipush (-2), 2) := by decide +kernel
theorem dX8_offer_36 : decode cX8_offer 36 = .ok (.if_icmp .ne 6, 3) := by decide +kernel
theorem dX8_offer_39 : decode cX8_offer 39 = .ok (.bipush (-2), 2) := by decide +kernel
theorem dX8_offer_41 : decode cX8_offer 41 = .ok (.ireturn, 1) := by decide +kernel
theorem dX8_offer_42 : decode cX8_offer 42 = .ok (.iload_n 2, 1) := by decide +kernel
theorem dX8_offer_43 : decode cX8_offer 43 = .ok (.lookupswitch 41 #[(0, 25), (1, 33)], 25) := by decide +kernel
theorem dX8_offer_68 : decode cX8_offer 68 = .ok (.aload_n 0, 1) := by decide +kernel
theorem dX8_offer_69 : decode cX8_offer 69 = .ok (.getfield 45, 3) := by decide +kernel
theorem dX8_offer_72 : decode cX8_offer 72 = .ok (.getfield 238, 3) := by decide +kernel
theorem dX8_offer_75 : decode cX8_offer 75 = .ok (.ireturn, 1) := by decide +kernel
theorem dX8_offer_76 : decode cX8_offer 76 = .ok (.aload_n 0, 1) := by decide +kernel
theorem dX8_offer_77 : decode cX8_offer 77 = .ok (.getfield 45, 3) := by decide +kernel
theorem dX8_offer_80 : decode cX8_offer 80 = .ok (.getfield 241, 3) := by decide +kernel
theorem dX8_offer_83 : decode cX8_offer 83 = .ok (.ireturn, 1) := by decide +kernel
theorem dX8_offer_84 : decode cX8_offer 84 = .ok (.aload_n 0, 1) := by decide +kernel
theorem dX8_offer_85 : decode cX8_offer 85 = .ok (.getfield 45, 3) := by decide +kernel
theorem dX8_offer_88 : decode cX8_offer 88 = .ok (.getfield 244, 3) := by decide +kernel
theorem dX8_offer_91 : decode cX8_offer 91 = .ok (.ireturn, 1) := by decide +kernel
theorem dX8_repair_0 : decode cX8_repair 0 = .ok (.aload_n 0, 1) := by decide +kernel
theorem dX8_repair_1 : decode cX8_repair 1 = .ok (.getfield 16, 3) := by decide +kernel
theorem dX8_repair_4 : decode cX8_repair 4 = .ok (.aload_n 0, 1) := by decide +kernel
theorem dX8_repair_5 : decode cX8_repair 5 = .ok (.getfield 10, 3) := by decide +kernel
theorem dX8_repair_8 : decode cX8_repair 8 = .ok (.invokevirtual 79, 3) := by decide +kernel
theorem dX8_repair_11 : decode cX8_repair 11 = .ok (.aload_n 0, 1) := by decide +kernel
theorem dX8_repair_12 : decode cX8_repair 12 = .ok (.aload_n 0, 1) := by decide +kernel
theorem dX8_repair_13 : decode cX8_repair 13 = .ok (.invokevirtual 247, 3) := by decide +kernel
theorem dX8_repair_16 : decode cX8_repair 16 = .ok (.invokevirtual 86, 3) := by decide +kernel
theorem dX8_repair_19 : decode cX8_repair 19 = .ok (.ireturn, 1) := by decide +kernel
theorem dX8_repaired_0 : decode cX8_repaired 0 = .ok (.iload_n 2, 1) := by decide +kernel
theorem dX8_repaired_1 : decode cX8_repaired 1 = .ok (.iconst 0, 1) := by decide +kernel
theorem dX8_repaired_2 : decode cX8_repaired 2 = .ok (.iconst 3, 1) := by decide +kernel
theorem dX8_repaired_3 : decode cX8_repaired 3 = .ok (.invokestatic 127, 3) := by decide +kernel
theorem dX8_repaired_6 : decode cX8_repaired 6 = .ok (.ifCond .ne 5, 3) := by decide +kernel
theorem dX8_repaired_9 : decode cX8_repaired 9 = .ok (.iconst (-1), 1) := by decide +kernel
theorem dX8_repaired_10 : decode cX8_repaired 10 = .ok (.ireturn, 1) := by decide +kernel
theorem dX8_repaired_11 : decode cX8_repaired 11 = .ok (.iload_n 1, 1) := by decide +kernel
theorem dX8_repaired_12 : decode cX8_repaired 12 = .ok (.iconst 0, 1) := by decide +kernel
theorem dX8_repaired_13 : decode cX8_repaired 13 = .ok (.aload_n 0, 1) := by decide +kernel
theorem dX8_repaired_14 : decode cX8_repaired 14 = .ok (.getfield 52, 3) := by decide +kernel
theorem dX8_repaired_17 : decode cX8_repaired 17 = .ok (.getfield 250, 3) := by decide +kernel
theorem dX8_repaired_20 : decode cX8_repaired 20 = .ok (.iconst 1, 1) := by decide +kernel
theorem dX8_repaired_21 : decode cX8_repaired 21 = .ok (.isub, 1) := by decide +kernel
theorem dX8_repaired_22 : decode cX8_repaired 22 = .ok (.invokestatic 127, 3) := by decide +kernel
theorem dX8_repaired_25 : decode cX8_repaired 25 = .ok (.ifCond .ne 6, 3) := by decide +kernel
theorem dX8_repaired_28 : decode cX8_repaired 28 = .ok (.bipush (-2), 2) := by decide +kernel
theorem dX8_repaired_30 : decode cX8_repaired 30 = .ok (.ireturn, 1) := by decide +kernel
theorem dX8_repaired_31 : decode cX8_repaired 31 = .ok (.iload_n 2, 1) := by decide +kernel
theorem dX8_repaired_32 : decode cX8_repaired 32 = .ok (.tableswitch 66 0 2 #[28, 38, 48], 28) := by decide +kernel
theorem dX8_repaired_60 : decode cX8_repaired 60 = .ok (.aload_n 0, 1) := by decide +kernel
theorem dX8_repaired_61 : decode cX8_repaired 61 = .ok (.getfield 52, 3) := by decide +kernel
theorem dX8_repaired_64 : decode cX8_repaired 64 = .ok (.getfield 251, 3) := by decide +kernel
theorem dX8_repaired_67 : decode cX8_repaired 67 = .ok (.iload_n 1, 1) := by decide +kernel
theorem dX8_repaired_68 : decode cX8_repaired 68 = .ok (.iaload, 1) := by decide +kernel
theorem dX8_repaired_69 : decode cX8_repaired 69 = .ok (.ireturn, 1) := by decide +kernel
theorem dX8_repaired_70 : decode cX8_repaired 70 = .ok (.aload_n 0, 1) := by decide +kernel
theorem dX8_repaired_71 : decode cX8_repaired 71 = .ok (.getfield 52, 3) := by decide +kernel
theorem dX8_repaired_74 : decode cX8_repaired 74 = .ok (.getfield 254, 3) := by decide +kernel
theorem dX8_repaired_77 : decode cX8_repaired 77 = .ok (.iload_n 1, 1) := by decide +kernel
theorem dX8_repaired_78 : decode cX8_repaired 78 = .ok (.iaload, 1) := by decide +kernel
theorem dX8_repaired_79 : decode cX8_repaired 79 = .ok (.ireturn, 1) := by decide +kernel
theorem dX8_repaired_80 : decode cX8_repaired 80 = .ok (.aload_n 0, 1) := by decide +kernel
theorem dX8_repaired_81 : decode cX8_repaired 81 = .ok (.getfield 52, 3) := by decide +kernel
theorem dX8_repaired_84 : decode cX8_repaired 84 = .ok (.getfield 255, 3) := by decide +kernel
theorem dX8_repaired_87 : decode cX8_repaired 87 = .ok (.iload_n 1, 1) := by decide +kernel
theorem dX8_repaired_88 : decode cX8_repaired 88 = .ok (.baload, 1) := by decide +kernel
theorem dX8_repaired_89 : decode cX8_repaired 89 = .ok (.ifCond .eq 7, 3) := by decide +kernel
theorem dX8_repaired_92 : decode cX8_repaired 92 = .ok (.iconst 1, 1) := by decide +kernel
theorem dX8_repaired_93 : decode cX8_repaired 93 = .ok (.goto 4, 3) := by decide +kernel
theorem dX8_repaired_96 : decode cX8_repaired 96 = .ok (.iconst 0, 1) := by decide +kernel
theorem dX8_repaired_97 : decode cX8_repaired 97 = .ok (.ireturn, 1) := by decide +kernel
theorem dX8_repaired_98 : decode cX8_repaired 98 = .ok (.aload_n 0, 1) := by decide +kernel
theorem dX8_repaired_99 : decode cX8_repaired 99 = .ok (.getfield 52, 3) := by decide +kernel
theorem dX8_repaired_102 : decode cX8_repaired 102 = .ok (.getfield 256, 3) := by decide +kernel
theorem dX8_repaired_105 : decode cX8_repaired 105 = .ok (.iload_n 1, 1) := by decide +kernel
theorem dX8_repaired_106 : decode cX8_repaired 106 = .ok (.iaload, 1) := by decide +kernel
theorem dX8_repaired_107 : decode cX8_repaired 107 = .ok (.ireturn, 1) := by decide +kernel
theorem dX8_bestMinutes_0 : decode cX8_bestMinutes 0 = .ok (.aload_n 0, 1) := by decide +kernel
theorem dX8_bestMinutes_1 : decode cX8_bestMinutes 1 = .ok (.getfield 10, 3) := by decide +kernel
theorem dX8_bestMinutes_4 : decode cX8_bestMinutes 4 = .ok (.iload_n 1, 1) := by decide +kernel
theorem dX8_bestMinutes_5 : decode cX8_bestMinutes 5 = .ok (.invokevirtual 141, 3) := by decide +kernel
theorem dX8_bestMinutes_8 : decode cX8_bestMinutes 8 = .ok (.ifCond .ne 5, 3) := by decide +kernel
theorem dX8_bestMinutes_11 : decode cX8_bestMinutes 11 = .ok (.iconst (-1), 1) := by decide +kernel
theorem dX8_bestMinutes_12 : decode cX8_bestMinutes 12 = .ok (.ireturn, 1) := by decide +kernel
theorem dX8_bestMinutes_13 : decode cX8_bestMinutes 13 = .ok (.aload_n 0, 1) := by decide +kernel
theorem dX8_bestMinutes_14 : decode cX8_bestMinutes 14 = .ok (.getfield 61, 3) := by decide +kernel
theorem dX8_bestMinutes_17 : decode cX8_bestMinutes 17 = .ok (.iload_n 1, 1) := by decide +kernel
theorem dX8_bestMinutes_18 : decode cX8_bestMinutes 18 = .ok (.invokevirtual 259, 3) := by decide +kernel
theorem dX8_bestMinutes_21 : decode cX8_bestMinutes 21 = .ok (.aload_n 0, 1) := by decide +kernel
theorem dX8_bestMinutes_22 : decode cX8_bestMinutes 22 = .ok (.getfield 61, 3) := by decide +kernel
theorem dX8_bestMinutes_25 : decode cX8_bestMinutes 25 = .ok (.getfield 262, 3) := by decide +kernel
theorem dX8_bestMinutes_28 : decode cX8_bestMinutes 28 = .ok (.ifCond .ne 8, 3) := by decide +kernel
theorem dX8_bestMinutes_31 : decode cX8_bestMinutes 31 = .ok (.bipush (-2), 2) := by decide +kernel
theorem dX8_bestMinutes_33 : decode cX8_bestMinutes 33 = .ok (.goto 10, 3) := by decide +kernel
theorem dX8_bestMinutes_36 : decode cX8_bestMinutes 36 = .ok (.aload_n 0, 1) := by decide +kernel
theorem dX8_bestMinutes_37 : decode cX8_bestMinutes 37 = .ok (.getfield 61, 3) := by decide +kernel
theorem dX8_bestMinutes_40 : decode cX8_bestMinutes 40 = .ok (.getfield 265, 3) := by decide +kernel
theorem dX8_bestMinutes_43 : decode cX8_bestMinutes 43 = .ok (.ireturn, 1) := by decide +kernel
theorem dX8_bestLeg_0 : decode cX8_bestLeg 0 = .ok (.aload_n 0, 1) := by decide +kernel
theorem dX8_bestLeg_1 : decode cX8_bestLeg 1 = .ok (.getfield 10, 3) := by decide +kernel
theorem dX8_bestLeg_4 : decode cX8_bestLeg 4 = .ok (.iload_n 1, 1) := by decide +kernel
theorem dX8_bestLeg_5 : decode cX8_bestLeg 5 = .ok (.invokevirtual 141, 3) := by decide +kernel
theorem dX8_bestLeg_8 : decode cX8_bestLeg 8 = .ok (.ifCond .ne 5, 3) := by decide +kernel
theorem dX8_bestLeg_11 : decode cX8_bestLeg 11 = .ok (.iconst (-1), 1) := by decide +kernel
theorem dX8_bestLeg_12 : decode cX8_bestLeg 12 = .ok (.ireturn, 1) := by decide +kernel
theorem dX8_bestLeg_13 : decode cX8_bestLeg 13 = .ok (.aload_n 0, 1) := by decide +kernel
theorem dX8_bestLeg_14 : decode cX8_bestLeg 14 = .ok (.getfield 61, 3) := by decide +kernel
theorem dX8_bestLeg_17 : decode cX8_bestLeg 17 = .ok (.iload_n 1, 1) := by decide +kernel
theorem dX8_bestLeg_18 : decode cX8_bestLeg 18 = .ok (.invokevirtual 259, 3) := by decide +kernel
theorem dX8_bestLeg_21 : decode cX8_bestLeg 21 = .ok (.aload_n 0, 1) := by decide +kernel
theorem dX8_bestLeg_22 : decode cX8_bestLeg 22 = .ok (.getfield 61, 3) := by decide +kernel
theorem dX8_bestLeg_25 : decode cX8_bestLeg 25 = .ok (.getfield 262, 3) := by decide +kernel
theorem dX8_bestLeg_28 : decode cX8_bestLeg 28 = .ok (.ifCond .ne 6, 3) := by decide +kernel
theorem dX8_bestLeg_31 : decode cX8_bestLeg 31 = .ok (.bipush (-2), 2) := by decide +kernel
theorem dX8_bestLeg_33 : decode cX8_bestLeg 33 = .ok (.ireturn, 1) := by decide +kernel
theorem dX8_bestLeg_34 : decode cX8_bestLeg 34 = .ok (.iload_n 2, 1) := by decide +kernel
theorem dX8_bestLeg_35 : decode cX8_bestLeg 35 = .ok (.iconst (-1), 1) := by decide +kernel
theorem dX8_bestLeg_36 : decode cX8_bestLeg 36 = .ok (.if_icmp .ne 11, 3) := by decide +kernel
theorem dX8_bestLeg_39 : decode cX8_bestLeg 39 = .ok (.aload_n 0, 1) := by decide +kernel
theorem dX8_bestLeg_40 : decode cX8_bestLeg 40 = .ok (.getfield 61, 3) := by decide +kernel
theorem dX8_bestLeg_43 : decode cX8_bestLeg 43 = .ok (.getfield 262, 3) := by decide +kernel
theorem dX8_bestLeg_46 : decode cX8_bestLeg 46 = .ok (.ireturn, 1) := by decide +kernel
theorem dX8_bestLeg_47 : decode cX8_bestLeg 47 = .ok (.iload_n 2, 1) := by decide +kernel
theorem dX8_bestLeg_48 : decode cX8_bestLeg 48 = .ok (.iconst 0, 1) := by decide +kernel
theorem dX8_bestLeg_49 : decode cX8_bestLeg 49 = .ok (.aload_n 0, 1) := by decide +kernel
theorem dX8_bestLeg_50 : decode cX8_bestLeg 50 = .ok (.getfield 61, 3) := by decide +kernel
theorem dX8_bestLeg_53 : decode cX8_bestLeg 53 = .ok (.getfield 262, 3) := by decide +kernel
theorem dX8_bestLeg_56 : decode cX8_bestLeg 56 = .ok (.iconst 1, 1) := by decide +kernel
theorem dX8_bestLeg_57 : decode cX8_bestLeg 57 = .ok (.isub, 1) := by decide +kernel
theorem dX8_bestLeg_58 : decode cX8_bestLeg 58 = .ok (.invokestatic 127, 3) := by decide +kernel
theorem dX8_bestLeg_61 : decode cX8_bestLeg 61 = .ok (.ifCond .eq 15, 3) := by decide +kernel
theorem dX8_bestLeg_64 : decode cX8_bestLeg 64 = .ok (.aload_n 0, 1) := by decide +kernel
theorem dX8_bestLeg_65 : decode cX8_bestLeg 65 = .ok (.getfield 61, 3) := by decide +kernel
theorem dX8_bestLeg_68 : decode cX8_bestLeg 68 = .ok (.getfield 268, 3) := by decide +kernel
theorem dX8_bestLeg_71 : decode cX8_bestLeg 71 = .ok (.iload_n 2, 1) := by decide +kernel
theorem dX8_bestLeg_72 : decode cX8_bestLeg 72 = .ok (.iaload, 1) := by decide +kernel
theorem dX8_bestLeg_73 : decode cX8_bestLeg 73 = .ok (.goto 5, 3) := by decide +kernel
theorem dX8_bestLeg_76 : decode cX8_bestLeg 76 = .ok (.bipush (-2), 2) := by decide +kernel
theorem dX8_bestLeg_78 : decode cX8_bestLeg 78 = .ok (.ireturn, 1) := by decide +kernel
theorem dX8_takeBest_0 : decode cX8_takeBest 0 = .ok (.aload_n 0, 1) := by decide +kernel
theorem dX8_takeBest_1 : decode cX8_takeBest 1 = .ok (.getfield 16, 3) := by decide +kernel
theorem dX8_takeBest_4 : decode cX8_takeBest 4 = .ok (.aload_n 0, 1) := by decide +kernel
theorem dX8_takeBest_5 : decode cX8_takeBest 5 = .ok (.getfield 10, 3) := by decide +kernel
theorem dX8_takeBest_8 : decode cX8_takeBest 8 = .ok (.invokevirtual 79, 3) := by decide +kernel
theorem dX8_takeBest_11 : decode cX8_takeBest 11 = .ok (.aload_n 0, 1) := by decide +kernel
theorem dX8_takeBest_12 : decode cX8_takeBest 12 = .ok (.aload_n 0, 1) := by decide +kernel
theorem dX8_takeBest_13 : decode cX8_takeBest 13 = .ok (.iload_n 1, 1) := by decide +kernel
theorem dX8_takeBest_14 : decode cX8_takeBest 14 = .ok (.invokevirtual 271, 3) := by decide +kernel
theorem dX8_takeBest_17 : decode cX8_takeBest 17 = .ok (.invokevirtual 86, 3) := by decide +kernel
theorem dX8_takeBest_20 : decode cX8_takeBest 20 = .ok (.ireturn, 1) := by decide +kernel
theorem dX8_letter_0 : decode cX8_letter 0 = .ok (.aload_n 0, 1) := by decide +kernel
theorem dX8_letter_1 : decode cX8_letter 1 = .ok (.getfield 10, 3) := by decide +kernel
theorem dX8_letter_4 : decode cX8_letter 4 = .ok (.iload_n 1, 1) := by decide +kernel
theorem dX8_letter_5 : decode cX8_letter 5 = .ok (.invokevirtual 141, 3) := by decide +kernel
theorem dX8_letter_8 : decode cX8_letter 8 = .ok (.ifCond .ne 5, 3) := by decide +kernel
theorem dX8_letter_11 : decode cX8_letter 11 = .ok (.iconst (-1), 1) := by decide +kernel
theorem dX8_letter_12 : decode cX8_letter 12 = .ok (.ireturn, 1) := by decide +kernel
theorem dX8_letter_13 : decode cX8_letter 13 = .ok (.aload_n 0, 1) := by decide +kernel
theorem dX8_letter_14 : decode cX8_letter 14 = .ok (.getfield 38, 3) := by decide +kernel
theorem dX8_letter_17 : decode cX8_letter 17 = .ok (.iload_n 1, 1) := by decide +kernel
theorem dX8_letter_18 : decode cX8_letter 18 = .ok (.invokevirtual 150, 3) := by decide +kernel
theorem dX8_letter_21 : decode cX8_letter 21 = .ok (.aload_n 0, 1) := by decide +kernel
theorem dX8_letter_22 : decode cX8_letter 22 = .ok (.getfield 68, 3) := by decide +kernel
theorem dX8_letter_25 : decode cX8_letter 25 = .ok (.aload_n 0, 1) := by decide +kernel
theorem dX8_letter_26 : decode cX8_letter 26 = .ok (.getfield 38, 3) := by decide +kernel
theorem dX8_letter_29 : decode cX8_letter 29 = .ok (.aload_n 0, 1) := by decide +kernel
theorem dX8_letter_30 : decode cX8_letter 30 = .ok (.getfield 10, 3) := by decide +kernel
theorem dX8_letter_33 : decode cX8_letter 33 = .ok (.invokevirtual 274, 3) := by decide +kernel
theorem dX8_letter_36 : decode cX8_letter 36 = .ok (.iload_n 2, 1) := by decide +kernel
theorem dX8_letter_37 : decode cX8_letter 37 = .ok (.iconst (-1), 1) := by decide +kernel
theorem dX8_letter_38 : decode cX8_letter 38 = .ok (.if_icmp .ne 11, 3) := by decide +kernel
theorem dX8_letter_41 : decode cX8_letter 41 = .ok (.aload_n 0, 1) := by decide +kernel
theorem dX8_letter_42 : decode cX8_letter 42 = .ok (.getfield 68, 3) := by decide +kernel
theorem dX8_letter_45 : decode cX8_letter 45 = .ok (.getfield 278, 3) := by decide +kernel
theorem dX8_letter_48 : decode cX8_letter 48 = .ok (.ireturn, 1) := by decide +kernel
theorem dX8_letter_49 : decode cX8_letter 49 = .ok (.iload_n 2, 1) := by decide +kernel
theorem dX8_letter_50 : decode cX8_letter 50 = .ok (.iconst 0, 1) := by decide +kernel
theorem dX8_letter_51 : decode cX8_letter 51 = .ok (.aload_n 0, 1) := by decide +kernel
theorem dX8_letter_52 : decode cX8_letter 52 = .ok (.getfield 68, 3) := by decide +kernel
theorem dX8_letter_55 : decode cX8_letter 55 = .ok (.getfield 278, 3) := by decide +kernel
theorem dX8_letter_58 : decode cX8_letter 58 = .ok (.iconst 1, 1) := by decide +kernel
theorem dX8_letter_59 : decode cX8_letter 59 = .ok (.isub, 1) := by decide +kernel
theorem dX8_letter_60 : decode cX8_letter 60 = .ok (.invokestatic 127, 3) := by decide +kernel
theorem dX8_letter_63 : decode cX8_letter 63 = .ok (.ifCond .ne 6, 3) := by decide +kernel
theorem dX8_letter_66 : decode cX8_letter 66 = .ok (.bipush (-2), 2) := by decide +kernel
theorem dX8_letter_68 : decode cX8_letter 68 = .ok (.ireturn, 1) := by decide +kernel
theorem dX8_letter_69 : decode cX8_letter 69 = .ok (.aload_n 0, 1) := by decide +kernel
theorem dX8_letter_70 : decode cX8_letter 70 = .ok (.getfield 68, 3) := by decide +kernel
theorem dX8_letter_73 : decode cX8_letter 73 = .ok (.getfield 281, 3) := by decide +kernel
theorem dX8_letter_76 : decode cX8_letter 76 = .ok (.iload_n 2, 1) := by decide +kernel
theorem dX8_letter_77 : decode cX8_letter 77 = .ok (.caload, 1) := by decide +kernel
theorem dX8_letter_78 : decode cX8_letter 78 = .ok (.ireturn, 1) := by decide +kernel
theorem dX8_feed_0 : decode cX8_feed 0 = .ok (.iload_n 1, 1) := by decide +kernel
theorem dX8_feed_1 : decode cX8_feed 1 = .ok (.bipush 32, 2) := by decide +kernel
theorem dX8_feed_3 : decode cX8_feed 3 = .ok (.bipush 126, 2) := by decide +kernel
theorem dX8_feed_5 : decode cX8_feed 5 = .ok (.invokestatic 127, 3) := by decide +kernel
theorem dX8_feed_8 : decode cX8_feed 8 = .ok (.ifCond .ne 5, 3) := by decide +kernel
theorem dX8_feed_11 : decode cX8_feed 11 = .ok (.iconst (-1), 1) := by decide +kernel
theorem dX8_feed_12 : decode cX8_feed 12 = .ok (.ireturn, 1) := by decide +kernel
theorem dX8_feed_13 : decode cX8_feed 13 = .ok (.aload_n 0, 1) := by decide +kernel
theorem dX8_feed_14 : decode cX8_feed 14 = .ok (.getfield 75, 3) := by decide +kernel
theorem dX8_feed_17 : decode cX8_feed 17 = .ok (.getfield 285, 3) := by decide +kernel
theorem dX8_feed_20 : decode cX8_feed 20 = .ok (.bipush 60, 2) := by decide +kernel
theorem dX8_feed_22 : decode cX8_feed 22 = .ok (.if_icmp .lt 6, 3) := by decide +kernel
theorem dX8_feed_25 : decode cX8_feed 25 = .ok (.bipush (-3), 2) := by decide +kernel
theorem dX8_feed_27 : decode cX8_feed 27 = .ok (.ireturn, 1) := by decide +kernel
theorem dX8_feed_28 : decode cX8_feed 28 = .ok (.aload_n 0, 1) := by decide +kernel
theorem dX8_feed_29 : decode cX8_feed 29 = .ok (.getfield 75, 3) := by decide +kernel
theorem dX8_feed_32 : decode cX8_feed 32 = .ok (.getfield 286, 3) := by decide +kernel
theorem dX8_feed_35 : decode cX8_feed 35 = .ok (.aload_n 0, 1) := by decide +kernel
theorem dX8_feed_36 : decode cX8_feed 36 = .ok (.getfield 75, 3) := by decide +kernel
theorem dX8_feed_39 : decode cX8_feed 39 = .ok (.getfield 285, 3) := by decide +kernel
theorem dX8_feed_42 : decode cX8_feed 42 = .ok (.iload_n 1, 1) := by decide +kernel
theorem dX8_feed_43 : decode cX8_feed 43 = .ok (.i2c, 1) := by decide +kernel
theorem dX8_feed_44 : decode cX8_feed 44 = .ok (.castore, 1) := by decide +kernel
theorem dX8_feed_45 : decode cX8_feed 45 = .ok (.aload_n 0, 1) := by decide +kernel
theorem dX8_feed_46 : decode cX8_feed 46 = .ok (.getfield 75, 3) := by decide +kernel
theorem dX8_feed_49 : decode cX8_feed 49 = .ok (.dup, 1) := by decide +kernel
theorem dX8_feed_50 : decode cX8_feed 50 = .ok (.getfield 285, 3) := by decide +kernel
theorem dX8_feed_53 : decode cX8_feed 53 = .ok (.iconst 1, 1) := by decide +kernel
theorem dX8_feed_54 : decode cX8_feed 54 = .ok (.iadd, 1) := by decide +kernel
theorem dX8_feed_55 : decode cX8_feed 55 = .ok (.putfield 285, 3) := by decide +kernel
theorem dX8_feed_58 : decode cX8_feed 58 = .ok (.aload_n 0, 1) := by decide +kernel
theorem dX8_feed_59 : decode cX8_feed 59 = .ok (.getfield 75, 3) := by decide +kernel
theorem dX8_feed_62 : decode cX8_feed 62 = .ok (.getfield 285, 3) := by decide +kernel
theorem dX8_feed_65 : decode cX8_feed 65 = .ok (.ireturn, 1) := by decide +kernel
theorem dX8_execute_0 : decode cX8_execute 0 = .ok (.aload_n 0, 1) := by decide +kernel
theorem dX8_execute_1 : decode cX8_execute 1 = .ok (.getfield 75, 3) := by decide +kernel
theorem dX8_execute_4 : decode cX8_execute 4 = .ok (.invokevirtual 287, 3) := by decide +kernel
theorem dX8_execute_7 : decode cX8_execute 7 = .ok (.istore_n 1, 1) := by decide +kernel
theorem dX8_execute_8 : decode cX8_execute 8 = .ok (.aload_n 0, 1) := by decide +kernel
theorem dX8_execute_9 : decode cX8_execute 9 = .ok (.getfield 75, 3) := by decide +kernel
theorem dX8_execute_12 : decode cX8_execute 12 = .ok (.iconst 0, 1) := by decide +kernel
theorem dX8_execute_13 : decode cX8_execute 13 = .ok (.putfield 285, 3) := by decide +kernel
theorem dX8_execute_16 : decode cX8_execute 16 = .ok (.iload_n 1, 1) := by decide +kernel
theorem dX8_execute_17 : decode cX8_execute 17 = .ok (.bipush (-2), 2) := by decide +kernel
theorem dX8_execute_19 : decode cX8_execute 19 = .ok (.if_icmp .eq 9, 3) := by decide +kernel
theorem dX8_execute_22 : decode cX8_execute 22 = .ok (.sipush (-200), 3) := by decide +kernel
theorem dX8_execute_25 : decode cX8_execute 25 = .ok (.iload_n 1, 1) := by decide +kernel
theorem dX8_execute_26 : decode cX8_execute 26 = .ok (.isub, 1) := by decide +kernel
theorem dX8_execute_27 : decode cX8_execute 27 = .ok (.ireturn, 1) := by decide +kernel
theorem dX8_execute_28 : decode cX8_execute 28 = .ok (.aload_n 0, 1) := by decide +kernel
theorem dX8_execute_29 : decode cX8_execute 29 = .ok (.getfield 16, 3) := by decide +kernel
theorem dX8_execute_32 : decode cX8_execute 32 = .ok (.aload_n 0, 1) := by decide +kernel
theorem dX8_execute_33 : decode cX8_execute 33 = .ok (.getfield 10, 3) := by decide +kernel
theorem dX8_execute_36 : decode cX8_execute 36 = .ok (.invokevirtual 79, 3) := by decide +kernel
theorem dX8_execute_39 : decode cX8_execute 39 = .ok (.iconst 0, 1) := by decide +kernel
theorem dX8_execute_40 : decode cX8_execute 40 = .ok (.istore_n 2, 1) := by decide +kernel
theorem dX8_execute_41 : decode cX8_execute 41 = .ok (.iload_n 2, 1) := by decide +kernel
theorem dX8_execute_42 : decode cX8_execute 42 = .ok (.aload_n 0, 1) := by decide +kernel
theorem dX8_execute_43 : decode cX8_execute 43 = .ok (.getfield 75, 3) := by decide +kernel
theorem dX8_execute_46 : decode cX8_execute 46 = .ok (.getfield 290, 3) := by decide +kernel
theorem dX8_execute_49 : decode cX8_execute 49 = .ok (.if_icmp .ge 34, 3) := by decide +kernel
theorem dX8_execute_52 : decode cX8_execute 52 = .ok (.aload_n 0, 1) := by decide +kernel
theorem dX8_execute_53 : decode cX8_execute 53 = .ok (.iload_n 2, 1) := by decide +kernel
theorem dX8_execute_54 : decode cX8_execute 54 = .ok (.invokevirtual 291, 3) := by decide +kernel
theorem dX8_execute_57 : decode cX8_execute 57 = .ok (.ifCond .ge 20, 3) := by decide +kernel
theorem dX8_execute_60 : decode cX8_execute 60 = .ok (.aload_n 0, 1) := by decide +kernel
theorem dX8_execute_61 : decode cX8_execute 61 = .ok (.getfield 10, 3) := by decide +kernel
theorem dX8_execute_64 : decode cX8_execute 64 = .ok (.aload_n 0, 1) := by decide +kernel
theorem dX8_execute_65 : decode cX8_execute 65 = .ok (.getfield 16, 3) := by decide +kernel
theorem dX8_execute_68 : decode cX8_execute 68 = .ok (.invokevirtual 79, 3) := by decide +kernel
theorem dX8_execute_71 : decode cX8_execute 71 = .ok (.sipush (-300), 3) := by decide +kernel
theorem dX8_execute_74 : decode cX8_execute 74 = .ok (.iload_n 2, 1) := by decide +kernel
theorem dX8_execute_75 : decode cX8_execute 75 = .ok (.isub, 1) := by decide +kernel
theorem dX8_execute_76 : decode cX8_execute 76 = .ok (.ireturn, 1) := by decide +kernel
theorem dX8_execute_77 : decode cX8_execute 77 = .ok (.iinc 2 1, 3) := by decide +kernel
theorem dX8_execute_80 : decode cX8_execute 80 = .ok (.goto (-39), 3) := by decide +kernel
theorem dX8_execute_83 : decode cX8_execute 83 = .ok (.aload_n 0, 1) := by decide +kernel
theorem dX8_execute_84 : decode cX8_execute 84 = .ok (.aload_n 0, 1) := by decide +kernel
theorem dX8_execute_85 : decode cX8_execute 85 = .ok (.getfield 75, 3) := by decide +kernel
theorem dX8_execute_88 : decode cX8_execute 88 = .ok (.getfield 290, 3) := by decide +kernel
theorem dX8_execute_91 : decode cX8_execute 91 = .ok (.invokevirtual 86, 3) := by decide +kernel
theorem dX8_execute_94 : decode cX8_execute 94 = .ok (.ireturn, 1) := by decide +kernel
theorem dX8_save_0 : decode cX8_save 0 = .ok (.aload_n 0, 1) := by decide +kernel
theorem dX8_save_1 : decode cX8_save 1 = .ok (.getfield 19, 3) := by decide +kernel
theorem dX8_save_4 : decode cX8_save 4 = .ok (.aload_n 0, 1) := by decide +kernel
theorem dX8_save_5 : decode cX8_save 5 = .ok (.getfield 10, 3) := by decide +kernel
theorem dX8_save_8 : decode cX8_save 8 = .ok (.invokevirtual 79, 3) := by decide +kernel
theorem dX8_save_11 : decode cX8_save 11 = .ok (.aload_n 0, 1) := by decide +kernel
theorem dX8_save_12 : decode cX8_save 12 = .ok (.iconst 1, 1) := by decide +kernel
theorem dX8_save_13 : decode cX8_save 13 = .ok (.putfield 22, 3) := by decide +kernel
theorem dX8_save_16 : decode cX8_save 16 = .ok (.aload_n 0, 1) := by decide +kernel
theorem dX8_save_17 : decode cX8_save 17 = .ok (.getfield 10, 3) := by decide +kernel
theorem dX8_save_20 : decode cX8_save 20 = .ok (.getfield 93, 3) := by decide +kernel
theorem dX8_save_23 : decode cX8_save 23 = .ok (.ireturn, 1) := by decide +kernel
theorem dX8_restore_0 : decode cX8_restore 0 = .ok (.aload_n 0, 1) := by decide +kernel
theorem dX8_restore_1 : decode cX8_restore 1 = .ok (.getfield 22, 3) := by decide +kernel
theorem dX8_restore_4 : decode cX8_restore 4 = .ok (.ifCond .ne 6, 3) := by decide +kernel
theorem dX8_restore_7 : decode cX8_restore 7 = .ok (.bipush (-2), 2) := by decide +kernel
theorem dX8_restore_9 : decode cX8_restore 9 = .ok (.ireturn, 1) := by decide +kernel
theorem dX8_restore_10 : decode cX8_restore 10 = .ok (.aload_n 0, 1) := by decide +kernel
theorem dX8_restore_11 : decode cX8_restore 11 = .ok (.getfield 16, 3) := by decide +kernel
theorem dX8_restore_14 : decode cX8_restore 14 = .ok (.aload_n 0, 1) := by decide +kernel
theorem dX8_restore_15 : decode cX8_restore 15 = .ok (.getfield 10, 3) := by decide +kernel
theorem dX8_restore_18 : decode cX8_restore 18 = .ok (.invokevirtual 79, 3) := by decide +kernel
theorem dX8_restore_21 : decode cX8_restore 21 = .ok (.aload_n 0, 1) := by decide +kernel
theorem dX8_restore_22 : decode cX8_restore 22 = .ok (.getfield 10, 3) := by decide +kernel
theorem dX8_restore_25 : decode cX8_restore 25 = .ok (.aload_n 0, 1) := by decide +kernel
theorem dX8_restore_26 : decode cX8_restore 26 = .ok (.getfield 19, 3) := by decide +kernel
theorem dX8_restore_29 : decode cX8_restore 29 = .ok (.invokevirtual 79, 3) := by decide +kernel
theorem dX8_restore_32 : decode cX8_restore 32 = .ok (.aload_n 0, 1) := by decide +kernel
theorem dX8_restore_33 : decode cX8_restore 33 = .ok (.aload_n 0, 1) := by decide +kernel
theorem dX8_restore_34 : decode cX8_restore 34 = .ok (.getfield 10, 3) := by decide +kernel
theorem dX8_restore_37 : decode cX8_restore 37 = .ok (.getfield 93, 3) := by decide +kernel
theorem dX8_restore_40 : decode cX8_restore 40 = .ok (.invokevirtual 86, 3) := by decide +kernel
theorem dX8_restore_43 : decode cX8_restore 43 = .ok (.ireturn, 1) := by decide +kernel
theorem dX8_undo_0 : decode cX8_undo 0 = .ok (.aload_n 0, 1) := by decide +kernel
theorem dX8_undo_1 : decode cX8_undo 1 = .ok (.getfield 29, 3) := by decide +kernel
theorem dX8_undo_4 : decode cX8_undo 4 = .ok (.aload_n 0, 1) := by decide +kernel
theorem dX8_undo_5 : decode cX8_undo 5 = .ok (.getfield 10, 3) := by decide +kernel
theorem dX8_undo_8 : decode cX8_undo 8 = .ok (.invokevirtual 294, 3) := by decide +kernel
theorem dX8_undo_11 : decode cX8_undo 11 = .ok (.ireturn, 1) := by decide +kernel
theorem dX8_kept_0 : decode cX8_kept 0 = .ok (.iload_n 1, 1) := by decide +kernel
theorem dX8_kept_1 : decode cX8_kept 1 = .ok (.ifCond .lt 14, 3) := by decide +kernel
theorem dX8_kept_4 : decode cX8_kept 4 = .ok (.aload_n 0, 1) := by decide +kernel
theorem dX8_kept_5 : decode cX8_kept 5 = .ok (.getfield 29, 3) := by decide +kernel
theorem dX8_kept_8 : decode cX8_kept 8 = .ok (.aload_n 0, 1) := by decide +kernel
theorem dX8_kept_9 : decode cX8_kept 9 = .ok (.getfield 16, 3) := by decide +kernel
theorem dX8_kept_12 : decode cX8_kept 12 = .ok (.invokevirtual 298, 3) := by decide +kernel
theorem dX8_kept_15 : decode cX8_kept 15 = .ok (.iload_n 1, 1) := by decide +kernel
theorem dX8_kept_16 : decode cX8_kept 16 = .ok (.ireturn, 1) := by decide +kernel
theorem dX8_isIn_0 : decode cX8_isIn 0 = .ok (.iload_n 0, 1) := by decide +kernel
theorem dX8_isIn_1 : decode cX8_isIn 1 = .ok (.iload_n 1, 1) := by decide +kernel
theorem dX8_isIn_2 : decode cX8_isIn 2 = .ok (.if_icmp .lt 12, 3) := by decide +kernel
theorem dX8_isIn_5 : decode cX8_isIn 5 = .ok (.iload_n 0, 1) := by decide +kernel
theorem dX8_isIn_6 : decode cX8_isIn 6 = .ok (.iload_n 2, 1) := by decide +kernel
theorem dX8_isIn_7 : decode cX8_isIn 7 = .ok (.if_icmp .gt 7, 3) := by decide +kernel
theorem dX8_isIn_10 : decode cX8_isIn 10 = .ok (.iconst 1, 1) := by decide +kernel
theorem dX8_isIn_11 : decode cX8_isIn 11 = .ok (.goto 4, 3) := by decide +kernel
theorem dX8_isIn_14 : decode cX8_isIn 14 = .ok (.iconst 0, 1) := by decide +kernel
theorem dX8_isIn_15 : decode cX8_isIn 15 = .ok (.ireturn, 1) := by decide +kernel
theorem dX8_putLeg_0 : decode cX8_putLeg 0 = .ok (.iload_n 1, 1) := by decide +kernel
theorem dX8_putLeg_1 : decode cX8_putLeg 1 = .ok (.iconst 0, 1) := by decide +kernel
theorem dX8_putLeg_2 : decode cX8_putLeg 2 = .ok (.iconst 5, 1) := by decide +kernel
theorem dX8_putLeg_3 : decode cX8_putLeg 3 = .ok (.invokestatic 127, 3) := by decide +kernel
theorem dX8_putLeg_6 : decode cX8_putLeg 6 = .ok (.ifCond .eq 54, 3) := by decide +kernel
theorem dX8_putLeg_9 : decode cX8_putLeg 9 = .ok (.iload_n 2, 1) := by decide +kernel
theorem dX8_putLeg_10 : decode cX8_putLeg 10 = .ok (.iconst 0, 1) := by decide +kernel
theorem dX8_putLeg_11 : decode cX8_putLeg 11 = .ok (.iconst 5, 1) := by decide +kernel
theorem dX8_putLeg_12 : decode cX8_putLeg 12 = .ok (.invokestatic 127, 3) := by decide +kernel
theorem dX8_putLeg_15 : decode cX8_putLeg 15 = .ok (.ifCond .eq 45, 3) := by decide +kernel
theorem dX8_putLeg_18 : decode cX8_putLeg 18 = .ok (.iload_n 1, 1) := by decide +kernel
theorem dX8_putLeg_19 : decode cX8_putLeg 19 = .ok (.iload_n 2, 1) := by decide +kernel
theorem dX8_putLeg_20 : decode cX8_putLeg 20 = .ok (.if_icmp .eq 40, 3) := by decide +kernel
theorem dX8_putLeg_23 : decode cX8_putLeg 23 = .ok (.iload_n 3, 1) := by decide +kernel
theorem dX8_putLeg_24 : decode cX8_putLeg 24 = .ok (.iconst 0, 1) := by decide +kernel
theorem dX8_putLeg_25 : decode cX8_putLeg 25 = .ok (.sipush 5999, 3) := by decide +kernel
theorem dX8_putLeg_28 : decode cX8_putLeg 28 = .ok (.invokestatic 127, 3) := by decide +kernel
theorem dX8_putLeg_31 : decode cX8_putLeg 31 = .ok (.ifCond .eq 29, 3) := by decide +kernel
theorem dX8_putLeg_34 : decode cX8_putLeg 34 = .ok (.iload 4, 2) := by decide +kernel
theorem dX8_putLeg_36 : decode cX8_putLeg 36 = .ok (.iconst 0, 1) := by decide +kernel
theorem dX8_putLeg_37 : decode cX8_putLeg 37 = .ok (.sipush 5999, 3) := by decide +kernel
theorem dX8_putLeg_40 : decode cX8_putLeg 40 = .ok (.invokestatic 127, 3) := by decide +kernel
theorem dX8_putLeg_43 : decode cX8_putLeg 43 = .ok (.ifCond .eq 17, 3) := by decide +kernel
theorem dX8_putLeg_46 : decode cX8_putLeg 46 = .ok (.iload 4, 2) := by decide +kernel
theorem dX8_putLeg_48 : decode cX8_putLeg 48 = .ok (.iload_n 3, 1) := by decide +kernel
theorem dX8_putLeg_49 : decode cX8_putLeg 49 = .ok (.isub, 1) := by decide +kernel
theorem dX8_putLeg_50 : decode cX8_putLeg 50 = .ok (.iconst 1, 1) := by decide +kernel
theorem dX8_putLeg_51 : decode cX8_putLeg 51 = .ok (.sipush 600, 3) := by decide +kernel
theorem dX8_putLeg_54 : decode cX8_putLeg 54 = .ok (.invokestatic 127, 3) := by decide +kernel
theorem dX8_putLeg_57 : decode cX8_putLeg 57 = .ok (.ifCond .ne 5, 3) := by decide +kernel
theorem dX8_putLeg_60 : decode cX8_putLeg 60 = .ok (.iconst (-1), 1) := by decide +kernel
theorem dX8_putLeg_61 : decode cX8_putLeg 61 = .ok (.ireturn, 1) := by decide +kernel
theorem dX8_putLeg_62 : decode cX8_putLeg 62 = .ok (.aload_n 0, 1) := by decide +kernel
theorem dX8_putLeg_63 : decode cX8_putLeg 63 = .ok (.getfield 10, 3) := by decide +kernel
theorem dX8_putLeg_66 : decode cX8_putLeg 66 = .ok (.getfield 93, 3) := by decide +kernel
theorem dX8_putLeg_69 : decode cX8_putLeg 69 = .ok (.istore 5, 2) := by decide +kernel
theorem dX8_putLeg_71 : decode cX8_putLeg 71 = .ok (.aload_n 0, 1) := by decide +kernel
theorem dX8_putLeg_72 : decode cX8_putLeg 72 = .ok (.getfield 10, 3) := by decide +kernel
theorem dX8_putLeg_75 : decode cX8_putLeg 75 = .ok (.iload_n 1, 1) := by decide +kernel
theorem dX8_putLeg_76 : decode cX8_putLeg 76 = .ok (.iload_n 2, 1) := by decide +kernel
theorem dX8_putLeg_77 : decode cX8_putLeg 77 = .ok (.iload_n 3, 1) := by decide +kernel
theorem dX8_putLeg_78 : decode cX8_putLeg 78 = .ok (.iload 5, 2) := by decide +kernel
theorem dX8_putLeg_80 : decode cX8_putLeg 80 = .ok (.invokevirtual 301, 3) := by decide +kernel
theorem dX8_putLeg_83 : decode cX8_putLeg 83 = .ok (.ifCond .eq 6, 3) := by decide +kernel
theorem dX8_putLeg_86 : decode cX8_putLeg 86 = .ok (.bipush (-4), 2) := by decide +kernel
theorem dX8_putLeg_88 : decode cX8_putLeg 88 = .ok (.ireturn, 1) := by decide +kernel
theorem dX8_putLeg_89 : decode cX8_putLeg 89 = .ok (.iload 5, 2) := by decide +kernel
theorem dX8_putLeg_91 : decode cX8_putLeg 91 = .ok (.bipush 24, 2) := by decide +kernel
theorem dX8_putLeg_93 : decode cX8_putLeg 93 = .ok (.if_icmp .lt 6, 3) := by decide +kernel
theorem dX8_putLeg_96 : decode cX8_putLeg 96 = .ok (.bipush (-3), 2) := by decide +kernel
theorem dX8_putLeg_98 : decode cX8_putLeg 98 = .ok (.ireturn, 1) := by decide +kernel
theorem dX8_putLeg_99 : decode cX8_putLeg 99 = .ok (.aload_n 0, 1) := by decide +kernel
theorem dX8_putLeg_100 : decode cX8_putLeg 100 = .ok (.getfield 10, 3) := by decide +kernel
theorem dX8_putLeg_103 : decode cX8_putLeg 103 = .ok (.getfield 104, 3) := by decide +kernel
theorem dX8_putLeg_106 : decode cX8_putLeg 106 = .ok (.iload 5, 2) := by decide +kernel
theorem dX8_putLeg_108 : decode cX8_putLeg 108 = .ok (.iload_n 1, 1) := by decide +kernel
theorem dX8_putLeg_109 : decode cX8_putLeg 109 = .ok (.iastore, 1) := by decide +kernel
theorem dX8_putLeg_110 : decode cX8_putLeg 110 = .ok (.aload_n 0, 1) := by decide +kernel
theorem dX8_putLeg_111 : decode cX8_putLeg 111 = .ok (.getfield 10, 3) := by decide +kernel
theorem dX8_putLeg_114 : decode cX8_putLeg 114 = .ok (.getfield 108, 3) := by decide +kernel
theorem dX8_putLeg_117 : decode cX8_putLeg 117 = .ok (.iload 5, 2) := by decide +kernel
theorem dX8_putLeg_119 : decode cX8_putLeg 119 = .ok (.iload_n 2, 1) := by decide +kernel
theorem dX8_putLeg_120 : decode cX8_putLeg 120 = .ok (.iastore, 1) := by decide +kernel
theorem dX8_putLeg_121 : decode cX8_putLeg 121 = .ok (.aload_n 0, 1) := by decide +kernel
theorem dX8_putLeg_122 : decode cX8_putLeg 122 = .ok (.getfield 10, 3) := by decide +kernel
theorem dX8_putLeg_125 : decode cX8_putLeg 125 = .ok (.getfield 111, 3) := by decide +kernel
theorem dX8_putLeg_128 : decode cX8_putLeg 128 = .ok (.iload 5, 2) := by decide +kernel
theorem dX8_putLeg_130 : decode cX8_putLeg 130 = .ok (.iload_n 3, 1) := by decide +kernel
theorem dX8_putLeg_131 : decode cX8_putLeg 131 = .ok (.iastore, 1) := by decide +kernel
theorem dX8_putLeg_132 : decode cX8_putLeg 132 = .ok (.aload_n 0, 1) := by decide +kernel
theorem dX8_putLeg_133 : decode cX8_putLeg 133 = .ok (.getfield 10, 3) := by decide +kernel
theorem dX8_putLeg_136 : decode cX8_putLeg 136 = .ok (.getfield 114, 3) := by decide +kernel
theorem dX8_putLeg_139 : decode cX8_putLeg 139 = .ok (.iload 5, 2) := by decide +kernel
theorem dX8_putLeg_141 : decode cX8_putLeg 141 = .ok (.iload 4, 2) := by decide +kernel
theorem dX8_putLeg_143 : decode cX8_putLeg 143 = .ok (.iastore, 1) := by decide +kernel
theorem dX8_putLeg_144 : decode cX8_putLeg 144 = .ok (.aload_n 0, 1) := by decide +kernel
theorem dX8_putLeg_145 : decode cX8_putLeg 145 = .ok (.getfield 10, 3) := by decide +kernel
theorem dX8_putLeg_148 : decode cX8_putLeg 148 = .ok (.getfield 117, 3) := by decide +kernel
theorem dX8_putLeg_151 : decode cX8_putLeg 151 = .ok (.iload 5, 2) := by decide +kernel
theorem dX8_putLeg_153 : decode cX8_putLeg 153 = .ok (.iconst 0, 1) := by decide +kernel
theorem dX8_putLeg_154 : decode cX8_putLeg 154 = .ok (.iastore, 1) := by decide +kernel
theorem dX8_putLeg_155 : decode cX8_putLeg 155 = .ok (.aload_n 0, 1) := by decide +kernel
theorem dX8_putLeg_156 : decode cX8_putLeg 156 = .ok (.getfield 10, 3) := by decide +kernel
theorem dX8_putLeg_159 : decode cX8_putLeg 159 = .ok (.dup, 1) := by decide +kernel
theorem dX8_putLeg_160 : decode cX8_putLeg 160 = .ok (.getfield 93, 3) := by decide +kernel
theorem dX8_putLeg_163 : decode cX8_putLeg 163 = .ok (.iconst 1, 1) := by decide +kernel
theorem dX8_putLeg_164 : decode cX8_putLeg 164 = .ok (.iadd, 1) := by decide +kernel
theorem dX8_putLeg_165 : decode cX8_putLeg 165 = .ok (.putfield 93, 3) := by decide +kernel
theorem dX8_putLeg_168 : decode cX8_putLeg 168 = .ok (.aload_n 0, 1) := by decide +kernel
theorem dX8_putLeg_169 : decode cX8_putLeg 169 = .ok (.getfield 10, 3) := by decide +kernel
theorem dX8_putLeg_172 : decode cX8_putLeg 172 = .ok (.invokevirtual 305, 3) := by decide +kernel
theorem dX8_putLeg_175 : decode cX8_putLeg 175 = .ok (.iload 5, 2) := by decide +kernel
theorem dX8_putLeg_177 : decode cX8_putLeg 177 = .ok (.ireturn, 1) := by decide +kernel
theorem dX8_putCrew_0 : decode cX8_putCrew 0 = .ok (.iload_n 1, 1) := by decide +kernel
theorem dX8_putCrew_1 : decode cX8_putCrew 1 = .ok (.iconst 0, 1) := by decide +kernel
theorem dX8_putCrew_2 : decode cX8_putCrew 2 = .ok (.iconst 5, 1) := by decide +kernel
theorem dX8_putCrew_3 : decode cX8_putCrew 3 = .ok (.invokestatic 127, 3) := by decide +kernel
theorem dX8_putCrew_6 : decode cX8_putCrew 6 = .ok (.ifCond .ne 5, 3) := by decide +kernel
theorem dX8_putCrew_9 : decode cX8_putCrew 9 = .ok (.iconst (-1), 1) := by decide +kernel
theorem dX8_putCrew_10 : decode cX8_putCrew 10 = .ok (.ireturn, 1) := by decide +kernel
theorem dX8_putCrew_11 : decode cX8_putCrew 11 = .ok (.aload_n 0, 1) := by decide +kernel
theorem dX8_putCrew_12 : decode cX8_putCrew 12 = .ok (.getfield 10, 3) := by decide +kernel
theorem dX8_putCrew_15 : decode cX8_putCrew 15 = .ok (.getfield 97, 3) := by decide +kernel
theorem dX8_putCrew_18 : decode cX8_putCrew 18 = .ok (.istore_n 2, 1) := by decide +kernel
theorem dX8_putCrew_19 : decode cX8_putCrew 19 = .ok (.iload_n 2, 1) := by decide +kernel
theorem dX8_putCrew_20 : decode cX8_putCrew 20 = .ok (.bipush 6, 2) := by decide +kernel
theorem dX8_putCrew_22 : decode cX8_putCrew 22 = .ok (.if_icmp .lt 6, 3) := by decide +kernel
theorem dX8_putCrew_25 : decode cX8_putCrew 25 = .ok (.bipush (-3), 2) := by decide +kernel
theorem dX8_putCrew_27 : decode cX8_putCrew 27 = .ok (.ireturn, 1) := by decide +kernel
theorem dX8_putCrew_28 : decode cX8_putCrew 28 = .ok (.aload_n 0, 1) := by decide +kernel
theorem dX8_putCrew_29 : decode cX8_putCrew 29 = .ok (.getfield 10, 3) := by decide +kernel
theorem dX8_putCrew_32 : decode cX8_putCrew 32 = .ok (.getfield 308, 3) := by decide +kernel
theorem dX8_putCrew_35 : decode cX8_putCrew 35 = .ok (.iload_n 2, 1) := by decide +kernel
theorem dX8_putCrew_36 : decode cX8_putCrew 36 = .ok (.iload_n 1, 1) := by decide +kernel
theorem dX8_putCrew_37 : decode cX8_putCrew 37 = .ok (.iastore, 1) := by decide +kernel
theorem dX8_putCrew_38 : decode cX8_putCrew 38 = .ok (.aload_n 0, 1) := by decide +kernel
theorem dX8_putCrew_39 : decode cX8_putCrew 39 = .ok (.getfield 10, 3) := by decide +kernel
theorem dX8_putCrew_42 : decode cX8_putCrew 42 = .ok (.dup, 1) := by decide +kernel
theorem dX8_putCrew_43 : decode cX8_putCrew 43 = .ok (.getfield 97, 3) := by decide +kernel
theorem dX8_putCrew_46 : decode cX8_putCrew 46 = .ok (.iconst 1, 1) := by decide +kernel
theorem dX8_putCrew_47 : decode cX8_putCrew 47 = .ok (.iadd, 1) := by decide +kernel
theorem dX8_putCrew_48 : decode cX8_putCrew 48 = .ok (.putfield 97, 3) := by decide +kernel
theorem dX8_putCrew_51 : decode cX8_putCrew 51 = .ok (.iload_n 2, 1) := by decide +kernel
theorem dX8_putCrew_52 : decode cX8_putCrew 52 = .ok (.ireturn, 1) := by decide +kernel
theorem dX8_changeRule_0 : decode cX8_changeRule 0 = .ok (.iload_n 1, 1) := by decide +kernel
theorem dX8_changeRule_1 : decode cX8_changeRule 1 = .ok (.iconst 0, 1) := by decide +kernel
theorem dX8_changeRule_2 : decode cX8_changeRule 2 = .ok (.bipush 7, 2) := by decide +kernel
theorem dX8_changeRule_4 : decode cX8_changeRule 4 = .ok (.invokestatic 127, 3) := by decide +kernel
theorem dX8_changeRule_7 : decode cX8_changeRule 7 = .ok (.ifCond .eq 20, 3) := by decide +kernel
theorem dX8_changeRule_10 : decode cX8_changeRule 10 = .ok (.iload_n 2, 1) := by decide +kernel
theorem dX8_changeRule_11 : decode cX8_changeRule 11 = .ok (.getstatic 311, 3) := by decide +kernel
theorem dX8_changeRule_14 : decode cX8_changeRule 14 = .ok (.iload_n 1, 1) := by decide +kernel
theorem dX8_changeRule_15 : decode cX8_changeRule 15 = .ok (.iaload, 1) := by decide +kernel
theorem dX8_changeRule_16 : decode cX8_changeRule 16 = .ok (.getstatic 314, 3) := by decide +kernel
theorem dX8_changeRule_19 : decode cX8_changeRule 19 = .ok (.iload_n 1, 1) := by decide +kernel
theorem dX8_changeRule_20 : decode cX8_changeRule 20 = .ok (.iaload, 1) := by decide +kernel
theorem dX8_changeRule_21 : decode cX8_changeRule 21 = .ok (.invokestatic 127, 3) := by decide +kernel
theorem dX8_changeRule_24 : decode cX8_changeRule 24 = .ok (.ifCond .ne 5, 3) := by decide +kernel
theorem dX8_changeRule_27 : decode cX8_changeRule 27 = .ok (.iconst (-1), 1) := by decide +kernel
theorem dX8_changeRule_28 : decode cX8_changeRule 28 = .ok (.ireturn, 1) := by decide +kernel
theorem dX8_changeRule_29 : decode cX8_changeRule 29 = .ok (.aload_n 0, 1) := by decide +kernel
theorem dX8_changeRule_30 : decode cX8_changeRule 30 = .ok (.getfield 10, 3) := by decide +kernel
theorem dX8_changeRule_33 : decode cX8_changeRule 33 = .ok (.getfield 131, 3) := by decide +kernel
theorem dX8_changeRule_36 : decode cX8_changeRule 36 = .ok (.iload_n 1, 1) := by decide +kernel
theorem dX8_changeRule_37 : decode cX8_changeRule 37 = .ok (.iaload, 1) := by decide +kernel
theorem dX8_changeRule_38 : decode cX8_changeRule 38 = .ok (.istore_n 3, 1) := by decide +kernel
theorem dX8_changeRule_39 : decode cX8_changeRule 39 = .ok (.aload_n 0, 1) := by decide +kernel
theorem dX8_changeRule_40 : decode cX8_changeRule 40 = .ok (.getfield 10, 3) := by decide +kernel
theorem dX8_changeRule_43 : decode cX8_changeRule 43 = .ok (.getfield 131, 3) := by decide +kernel
theorem dX8_changeRule_46 : decode cX8_changeRule 46 = .ok (.iload_n 1, 1) := by decide +kernel
theorem dX8_changeRule_47 : decode cX8_changeRule 47 = .ok (.iload_n 2, 1) := by decide +kernel
theorem dX8_changeRule_48 : decode cX8_changeRule 48 = .ok (.iastore, 1) := by decide +kernel
theorem dX8_changeRule_49 : decode cX8_changeRule 49 = .ok (.iload_n 3, 1) := by decide +kernel
theorem dX8_changeRule_50 : decode cX8_changeRule 50 = .ok (.ireturn, 1) := by decide +kernel
theorem dX8_take_0 : decode cX8_take 0 = .ok (.aload_n 0, 1) := by decide +kernel
theorem dX8_take_1 : decode cX8_take 1 = .ok (.getfield 10, 3) := by decide +kernel
theorem dX8_take_4 : decode cX8_take 4 = .ok (.iload_n 1, 1) := by decide +kernel
theorem dX8_take_5 : decode cX8_take 5 = .ok (.invokevirtual 141, 3) := by decide +kernel
theorem dX8_take_8 : decode cX8_take 8 = .ok (.ifCond .eq 14, 3) := by decide +kernel
theorem dX8_take_11 : decode cX8_take 11 = .ok (.aload_n 0, 1) := by decide +kernel
theorem dX8_take_12 : decode cX8_take 12 = .ok (.getfield 10, 3) := by decide +kernel
theorem dX8_take_15 : decode cX8_take 15 = .ok (.iload_n 2, 1) := by decide +kernel
theorem dX8_take_16 : decode cX8_take 16 = .ok (.invokevirtual 100, 3) := by decide +kernel
theorem dX8_take_19 : decode cX8_take 19 = .ok (.ifCond .ne 5, 3) := by decide +kernel
theorem dX8_take_22 : decode cX8_take 22 = .ok (.iconst (-1), 1) := by decide +kernel
theorem dX8_take_23 : decode cX8_take 23 = .ok (.ireturn, 1) := by decide +kernel
theorem dX8_take_24 : decode cX8_take 24 = .ok (.aload_n 0, 1) := by decide +kernel
theorem dX8_take_25 : decode cX8_take 25 = .ok (.iload_n 1, 1) := by decide +kernel
theorem dX8_take_26 : decode cX8_take 26 = .ok (.iload_n 2, 1) := by decide +kernel
theorem dX8_take_27 : decode cX8_take 27 = .ok (.iload_n 3, 1) := by decide +kernel
theorem dX8_take_28 : decode cX8_take 28 = .ok (.invokevirtual 144, 3) := by decide +kernel
theorem dX8_take_31 : decode cX8_take 31 = .ok (.istore 4, 2) := by decide +kernel
theorem dX8_take_33 : decode cX8_take 33 = .ok (.iload 4, 2) := by decide +kernel
theorem dX8_take_35 : decode cX8_take 35 = .ok (.ifCond .eq 9, 3) := by decide +kernel
theorem dX8_take_38 : decode cX8_take 38 = .ok (.bipush (-100), 2) := by decide +kernel
theorem dX8_take_40 : decode cX8_take 40 = .ok (.iload 4, 2) := by decide +kernel
theorem dX8_take_42 : decode cX8_take 42 = .ok (.isub, 1) := by decide +kernel
theorem dX8_take_43 : decode cX8_take 43 = .ok (.ireturn, 1) := by decide +kernel
theorem dX8_take_44 : decode cX8_take 44 = .ok (.aload_n 0, 1) := by decide +kernel
theorem dX8_take_45 : decode cX8_take 45 = .ok (.getfield 10, 3) := by decide +kernel
theorem dX8_take_48 : decode cX8_take 48 = .ok (.getfield 317, 3) := by decide +kernel
theorem dX8_take_51 : decode cX8_take 51 = .ok (.iload_n 1, 1) := by decide +kernel
theorem dX8_take_52 : decode cX8_take 52 = .ok (.aaload, 1) := by decide +kernel
theorem dX8_take_53 : decode cX8_take 53 = .ok (.iload_n 2, 1) := by decide +kernel
theorem dX8_take_54 : decode cX8_take 54 = .ok (.iload_n 3, 1) := by decide +kernel
theorem dX8_take_55 : decode cX8_take 55 = .ok (.iastore, 1) := by decide +kernel
theorem dX8_take_56 : decode cX8_take 56 = .ok (.aload_n 0, 1) := by decide +kernel
theorem dX8_take_57 : decode cX8_take 57 = .ok (.getfield 38, 3) := by decide +kernel
theorem dX8_take_60 : decode cX8_take 60 = .ok (.iload_n 1, 1) := by decide +kernel
theorem dX8_take_61 : decode cX8_take 61 = .ok (.invokevirtual 150, 3) := by decide +kernel
theorem dX8_take_64 : decode cX8_take 64 = .ok (.aload_n 0, 1) := by decide +kernel
theorem dX8_take_65 : decode cX8_take 65 = .ok (.getfield 38, 3) := by decide +kernel
theorem dX8_take_68 : decode cX8_take 68 = .ok (.iload_n 2, 1) := by decide +kernel
theorem dX8_take_69 : decode cX8_take 69 = .ok (.invokevirtual 321, 3) := by decide +kernel
theorem dX8_take_72 : decode cX8_take 72 = .ok (.ireturn, 1) := by decide +kernel
theorem dX8_leave_0 : decode cX8_leave 0 = .ok (.aload_n 0, 1) := by decide +kernel
theorem dX8_leave_1 : decode cX8_leave 1 = .ok (.getfield 10, 3) := by decide +kernel
theorem dX8_leave_4 : decode cX8_leave 4 = .ok (.iload_n 1, 1) := by decide +kernel
theorem dX8_leave_5 : decode cX8_leave 5 = .ok (.invokevirtual 141, 3) := by decide +kernel
theorem dX8_leave_8 : decode cX8_leave 8 = .ok (.ifCond .eq 14, 3) := by decide +kernel
theorem dX8_leave_11 : decode cX8_leave 11 = .ok (.aload_n 0, 1) := by decide +kernel
theorem dX8_leave_12 : decode cX8_leave 12 = .ok (.getfield 10, 3) := by decide +kernel
theorem dX8_leave_15 : decode cX8_leave 15 = .ok (.iload_n 2, 1) := by decide +kernel
theorem dX8_leave_16 : decode cX8_leave 16 = .ok (.invokevirtual 100, 3) := by decide +kernel
theorem dX8_leave_19 : decode cX8_leave 19 = .ok (.ifCond .ne 5, 3) := by decide +kernel
theorem dX8_leave_22 : decode cX8_leave 22 = .ok (.iconst (-1), 1) := by decide +kernel
theorem dX8_leave_23 : decode cX8_leave 23 = .ok (.ireturn, 1) := by decide +kernel
theorem dX8_leave_24 : decode cX8_leave 24 = .ok (.aload_n 0, 1) := by decide +kernel
theorem dX8_leave_25 : decode cX8_leave 25 = .ok (.getfield 10, 3) := by decide +kernel
theorem dX8_leave_28 : decode cX8_leave 28 = .ok (.getfield 317, 3) := by decide +kernel
theorem dX8_leave_31 : decode cX8_leave 31 = .ok (.iload_n 1, 1) := by decide +kernel
theorem dX8_leave_32 : decode cX8_leave 32 = .ok (.aaload, 1) := by decide +kernel
theorem dX8_leave_33 : decode cX8_leave 33 = .ok (.iload_n 2, 1) := by decide +kernel
theorem dX8_leave_34 : decode cX8_leave 34 = .ok (.iaload, 1) := by decide +kernel
theorem dX8_leave_35 : decode cX8_leave 35 = .ok (.ifCond .ne 6, 3) := by decide +kernel
theorem dX8_leave_38 : decode cX8_leave 38 = .ok (.bipush (-2), 2) := by decide +kernel
theorem dX8_leave_40 : decode cX8_leave 40 = .ok (.ireturn, 1) := by decide +kernel
theorem dX8_leave_41 : decode cX8_leave 41 = .ok (.aload_n 0, 1) := by decide +kernel
theorem dX8_leave_42 : decode cX8_leave 42 = .ok (.getfield 10, 3) := by decide +kernel
theorem dX8_leave_45 : decode cX8_leave 45 = .ok (.getfield 317, 3) := by decide +kernel
theorem dX8_leave_48 : decode cX8_leave 48 = .ok (.iload_n 1, 1) := by decide +kernel
theorem dX8_leave_49 : decode cX8_leave 49 = .ok (.aaload, 1) := by decide +kernel
theorem dX8_leave_50 : decode cX8_leave 50 = .ok (.iload_n 2, 1) := by decide +kernel
theorem dX8_leave_51 : decode cX8_leave 51 = .ok (.iconst 0, 1) := by decide +kernel
theorem dX8_leave_52 : decode cX8_leave 52 = .ok (.iastore, 1) := by decide +kernel
theorem dX8_leave_53 : decode cX8_leave 53 = .ok (.aload_n 0, 1) := by decide +kernel
theorem dX8_leave_54 : decode cX8_leave 54 = .ok (.getfield 38, 3) := by decide +kernel
theorem dX8_leave_57 : decode cX8_leave 57 = .ok (.iload_n 1, 1) := by decide +kernel
theorem dX8_leave_58 : decode cX8_leave 58 = .ok (.invokevirtual 150, 3) := by decide +kernel
theorem dX8_leave_61 : decode cX8_leave 61 = .ok (.aload_n 0, 1) := by decide +kernel
theorem dX8_leave_62 : decode cX8_leave 62 = .ok (.getfield 38, 3) := by decide +kernel
theorem dX8_leave_65 : decode cX8_leave 65 = .ok (.getfield 154, 3) := by decide +kernel
theorem dX8_leave_68 : decode cX8_leave 68 = .ok (.ireturn, 1) := by decide +kernel
theorem dX8_shift_0 : decode cX8_shift 0 = .ok (.aload_n 0, 1) := by decide +kernel
theorem dX8_shift_1 : decode cX8_shift 1 = .ok (.getfield 10, 3) := by decide +kernel
theorem dX8_shift_4 : decode cX8_shift 4 = .ok (.iload_n 1, 1) := by decide +kernel
theorem dX8_shift_5 : decode cX8_shift 5 = .ok (.invokevirtual 100, 3) := by decide +kernel
theorem dX8_shift_8 : decode cX8_shift 8 = .ok (.ifCond .eq 16, 3) := by decide +kernel
theorem dX8_shift_11 : decode cX8_shift 11 = .ok (.iload_n 2, 1) := by decide +kernel
theorem dX8_shift_12 : decode cX8_shift 12 = .ok (.sipush (-600), 3) := by decide +kernel
theorem dX8_shift_15 : decode cX8_shift 15 = .ok (.sipush 600, 3) := by decide +kernel
theorem dX8_shift_18 : decode cX8_shift 18 = .ok (.invokestatic 127, 3) := by decide +kernel
theorem dX8_shift_21 : decode cX8_shift 21 = .ok (.ifCond .ne 5, 3) := by decide +kernel
theorem dX8_shift_24 : decode cX8_shift 24 = .ok (.iconst (-1), 1) := by decide +kernel
theorem dX8_shift_25 : decode cX8_shift 25 = .ok (.ireturn, 1) := by decide +kernel
theorem dX8_shift_26 : decode cX8_shift 26 = .ok (.aload_n 0, 1) := by decide +kernel
theorem dX8_shift_27 : decode cX8_shift 27 = .ok (.getfield 10, 3) := by decide +kernel
theorem dX8_shift_30 : decode cX8_shift 30 = .ok (.getfield 111, 3) := by decide +kernel
theorem dX8_shift_33 : decode cX8_shift 33 = .ok (.iload_n 1, 1) := by decide +kernel
theorem dX8_shift_34 : decode cX8_shift 34 = .ok (.iaload, 1) := by decide +kernel
theorem dX8_shift_35 : decode cX8_shift 35 = .ok (.iload_n 2, 1) := by decide +kernel
theorem dX8_shift_36 : decode cX8_shift 36 = .ok (.iadd, 1) := by decide +kernel
theorem dX8_shift_37 : decode cX8_shift 37 = .ok (.istore_n 3, 1) := by decide +kernel
theorem dX8_shift_38 : decode cX8_shift 38 = .ok (.aload_n 0, 1) := by decide +kernel
theorem dX8_shift_39 : decode cX8_shift 39 = .ok (.getfield 10, 3) := by decide +kernel
theorem dX8_shift_42 : decode cX8_shift 42 = .ok (.getfield 114, 3) := by decide +kernel
theorem dX8_shift_45 : decode cX8_shift 45 = .ok (.iload_n 1, 1) := by decide +kernel
theorem dX8_shift_46 : decode cX8_shift 46 = .ok (.iaload, 1) := by decide +kernel
theorem dX8_shift_47 : decode cX8_shift 47 = .ok (.iload_n 2, 1) := by decide +kernel
theorem dX8_shift_48 : decode cX8_shift 48 = .ok (.iadd, 1) := by decide +kernel
theorem dX8_shift_49 : decode cX8_shift 49 = .ok (.istore 4, 2) := by decide +kernel
theorem dX8_shift_51 : decode cX8_shift 51 = .ok (.iload_n 3, 1) := by decide +kernel
theorem dX8_shift_52 : decode cX8_shift 52 = .ok (.ifCond .lt 11, 3) := by decide +kernel
theorem dX8_shift_55 : decode cX8_shift 55 = .ok (.iload 4, 2) := by decide +kernel
theorem dX8_shift_57 : decode cX8_shift 57 = .ok (.sipush 5999, 3) := by decide +kernel
theorem dX8_shift_60 : decode cX8_shift 60 = .ok (.if_icmp .le 6, 3) := by decide +kernel
theorem dX8_shift_63 : decode cX8_shift 63 = .ok (.bipush (-5), 2) := by decide +kernel
theorem dX8_shift_65 : decode cX8_shift 65 = .ok (.ireturn, 1) := by decide +kernel
theorem dX8_shift_66 : decode cX8_shift 66 = .ok (.aload_n 0, 1) := by decide +kernel
theorem dX8_shift_67 : decode cX8_shift 67 = .ok (.getfield 10, 3) := by decide +kernel
theorem dX8_shift_70 : decode cX8_shift 70 = .ok (.aload_n 0, 1) := by decide +kernel
theorem dX8_shift_71 : decode cX8_shift 71 = .ok (.getfield 10, 3) := by decide +kernel
theorem dX8_shift_74 : decode cX8_shift 74 = .ok (.getfield 104, 3) := by decide +kernel
theorem dX8_shift_77 : decode cX8_shift 77 = .ok (.iload_n 1, 1) := by decide +kernel
theorem dX8_shift_78 : decode cX8_shift 78 = .ok (.iaload, 1) := by decide +kernel
theorem dX8_shift_79 : decode cX8_shift 79 = .ok (.aload_n 0, 1) := by decide +kernel
theorem dX8_shift_80 : decode cX8_shift 80 = .ok (.getfield 10, 3) := by decide +kernel
theorem dX8_shift_83 : decode cX8_shift 83 = .ok (.getfield 108, 3) := by decide +kernel
theorem dX8_shift_86 : decode cX8_shift 86 = .ok (.iload_n 1, 1) := by decide +kernel
theorem dX8_shift_87 : decode cX8_shift 87 = .ok (.iaload, 1) := by decide +kernel
theorem dX8_shift_88 : decode cX8_shift 88 = .ok (.iload_n 3, 1) := by decide +kernel
theorem dX8_shift_89 : decode cX8_shift 89 = .ok (.iload_n 1, 1) := by decide +kernel
theorem dX8_shift_90 : decode cX8_shift 90 = .ok (.invokevirtual 301, 3) := by decide +kernel
theorem dX8_shift_93 : decode cX8_shift 93 = .ok (.ifCond .eq 6, 3) := by decide +kernel
theorem dX8_shift_96 : decode cX8_shift 96 = .ok (.bipush (-4), 2) := by decide +kernel
theorem dX8_shift_98 : decode cX8_shift 98 = .ok (.ireturn, 1) := by decide +kernel
theorem dX8_shift_99 : decode cX8_shift 99 = .ok (.aload_n 0, 1) := by decide +kernel
theorem dX8_shift_100 : decode cX8_shift 100 = .ok (.getfield 10, 3) := by decide +kernel
theorem dX8_shift_103 : decode cX8_shift 103 = .ok (.getfield 111, 3) := by decide +kernel
theorem dX8_shift_106 : decode cX8_shift 106 = .ok (.iload_n 1, 1) := by decide +kernel
theorem dX8_shift_107 : decode cX8_shift 107 = .ok (.iload_n 3, 1) := by decide +kernel
theorem dX8_shift_108 : decode cX8_shift 108 = .ok (.iastore, 1) := by decide +kernel
theorem dX8_shift_109 : decode cX8_shift 109 = .ok (.aload_n 0, 1) := by decide +kernel
theorem dX8_shift_110 : decode cX8_shift 110 = .ok (.getfield 10, 3) := by decide +kernel
theorem dX8_shift_113 : decode cX8_shift 113 = .ok (.getfield 114, 3) := by decide +kernel
theorem dX8_shift_116 : decode cX8_shift 116 = .ok (.iload_n 1, 1) := by decide +kernel
theorem dX8_shift_117 : decode cX8_shift 117 = .ok (.iload 4, 2) := by decide +kernel
theorem dX8_shift_119 : decode cX8_shift 119 = .ok (.iastore, 1) := by decide +kernel
theorem dX8_shift_120 : decode cX8_shift 120 = .ok (.aload_n 0, 1) := by decide +kernel
theorem dX8_shift_121 : decode cX8_shift 121 = .ok (.getfield 10, 3) := by decide +kernel
theorem dX8_shift_124 : decode cX8_shift 124 = .ok (.invokevirtual 305, 3) := by decide +kernel
theorem dX8_shift_127 : decode cX8_shift 127 = .ok (.iconst 0, 1) := by decide +kernel
theorem dX8_shift_128 : decode cX8_shift 128 = .ok (.istore 5, 2) := by decide +kernel
theorem dX8_shift_130 : decode cX8_shift 130 = .ok (.iconst 0, 1) := by decide +kernel
theorem dX8_shift_131 : decode cX8_shift 131 = .ok (.istore 6, 2) := by decide +kernel
theorem dX8_shift_133 : decode cX8_shift 133 = .ok (.iload 6, 2) := by decide +kernel
theorem dX8_shift_135 : decode cX8_shift 135 = .ok (.aload_n 0, 1) := by decide +kernel
theorem dX8_shift_136 : decode cX8_shift 136 = .ok (.getfield 10, 3) := by decide +kernel
theorem dX8_shift_139 : decode cX8_shift 139 = .ok (.getfield 97, 3) := by decide +kernel
theorem dX8_shift_142 : decode cX8_shift 142 = .ok (.if_icmp .ge 31, 3) := by decide +kernel
theorem dX8_shift_145 : decode cX8_shift 145 = .ok (.aload_n 0, 1) := by decide +kernel
theorem dX8_shift_146 : decode cX8_shift 146 = .ok (.getfield 38, 3) := by decide +kernel
theorem dX8_shift_149 : decode cX8_shift 149 = .ok (.iload 6, 2) := by decide +kernel
theorem dX8_shift_151 : decode cX8_shift 151 = .ok (.invokevirtual 150, 3) := by decide +kernel
theorem dX8_shift_154 : decode cX8_shift 154 = .ok (.iload 5, 2) := by decide +kernel
theorem dX8_shift_156 : decode cX8_shift 156 = .ok (.aload_n 0, 1) := by decide +kernel
theorem dX8_shift_157 : decode cX8_shift 157 = .ok (.getfield 38, 3) := by decide +kernel
theorem dX8_shift_160 : decode cX8_shift 160 = .ok (.iconst 1, 1) := by decide +kernel
theorem dX8_shift_161 : decode cX8_shift 161 = .ok (.invokevirtual 182, 3) := by decide +kernel
theorem dX8_shift_164 : decode cX8_shift 164 = .ok (.iadd, 1) := by decide +kernel
theorem dX8_shift_165 : decode cX8_shift 165 = .ok (.istore 5, 2) := by decide +kernel
theorem dX8_shift_167 : decode cX8_shift 167 = .ok (.iinc 6 1, 3) := by decide +kernel
theorem dX8_shift_170 : decode cX8_shift 170 = .ok (.goto (-37), 3) := by decide +kernel
theorem dX8_shift_173 : decode cX8_shift 173 = .ok (.iload 5, 2) := by decide +kernel
theorem dX8_shift_175 : decode cX8_shift 175 = .ok (.ireturn, 1) := by decide +kernel
theorem dX8_strike_0 : decode cX8_strike 0 = .ok (.aload_n 0, 1) := by decide +kernel
theorem dX8_strike_1 : decode cX8_strike 1 = .ok (.getfield 10, 3) := by decide +kernel
theorem dX8_strike_4 : decode cX8_strike 4 = .ok (.iload_n 1, 1) := by decide +kernel
theorem dX8_strike_5 : decode cX8_strike 5 = .ok (.invokevirtual 100, 3) := by decide +kernel
theorem dX8_strike_8 : decode cX8_strike 8 = .ok (.ifCond .ne 5, 3) := by decide +kernel
theorem dX8_strike_11 : decode cX8_strike 11 = .ok (.iconst (-1), 1) := by decide +kernel
theorem dX8_strike_12 : decode cX8_strike 12 = .ok (.ireturn, 1) := by decide +kernel
theorem dX8_strike_13 : decode cX8_strike 13 = .ok (.aload_n 0, 1) := by decide +kernel
theorem dX8_strike_14 : decode cX8_strike 14 = .ok (.getfield 10, 3) := by decide +kernel
theorem dX8_strike_17 : decode cX8_strike 17 = .ok (.getfield 117, 3) := by decide +kernel
theorem dX8_strike_20 : decode cX8_strike 20 = .ok (.iload_n 1, 1) := by decide +kernel
theorem dX8_strike_21 : decode cX8_strike 21 = .ok (.iaload, 1) := by decide +kernel
theorem dX8_strike_22 : decode cX8_strike 22 = .ok (.iconst 1, 1) := by decide +kernel
theorem dX8_strike_23 : decode cX8_strike 23 = .ok (.if_icmp .ne 6, 3) := by decide +kernel
theorem dX8_strike_26 : decode cX8_strike 26 = .ok (.bipush (-2), 2) := by decide +kernel
theorem dX8_strike_28 : decode cX8_strike 28 = .ok (.ireturn, 1) := by decide +kernel
theorem dX8_strike_29 : decode cX8_strike 29 = .ok (.aload_n 0, 1) := by decide +kernel
theorem dX8_strike_30 : decode cX8_strike 30 = .ok (.getfield 10, 3) := by decide +kernel
theorem dX8_strike_33 : decode cX8_strike 33 = .ok (.getfield 117, 3) := by decide +kernel
theorem dX8_strike_36 : decode cX8_strike 36 = .ok (.iload_n 1, 1) := by decide +kernel
theorem dX8_strike_37 : decode cX8_strike 37 = .ok (.iconst 1, 1) := by decide +kernel
theorem dX8_strike_38 : decode cX8_strike 38 = .ok (.iastore, 1) := by decide +kernel
theorem dX8_strike_39 : decode cX8_strike 39 = .ok (.iconst 0, 1) := by decide +kernel
theorem dX8_strike_40 : decode cX8_strike 40 = .ok (.istore_n 2, 1) := by decide +kernel
theorem dX8_strike_41 : decode cX8_strike 41 = .ok (.iconst 0, 1) := by decide +kernel
theorem dX8_strike_42 : decode cX8_strike 42 = .ok (.istore_n 3, 1) := by decide +kernel
theorem dX8_strike_43 : decode cX8_strike 43 = .ok (.iload_n 3, 1) := by decide +kernel
theorem dX8_strike_44 : decode cX8_strike 44 = .ok (.aload_n 0, 1) := by decide +kernel
theorem dX8_strike_45 : decode cX8_strike 45 = .ok (.getfield 10, 3) := by decide +kernel
theorem dX8_strike_48 : decode cX8_strike 48 = .ok (.getfield 97, 3) := by decide +kernel
theorem dX8_strike_51 : decode cX8_strike 51 = .ok (.if_icmp .ge 38, 3) := by decide +kernel
theorem dX8_strike_54 : decode cX8_strike 54 = .ok (.aload_n 0, 1) := by decide +kernel
theorem dX8_strike_55 : decode cX8_strike 55 = .ok (.getfield 10, 3) := by decide +kernel
theorem dX8_strike_58 : decode cX8_strike 58 = .ok (.getfield 317, 3) := by decide +kernel
theorem dX8_strike_61 : decode cX8_strike 61 = .ok (.iload_n 3, 1) := by decide +kernel
theorem dX8_strike_62 : decode cX8_strike 62 = .ok (.aaload, 1) := by decide +kernel
theorem dX8_strike_63 : decode cX8_strike 63 = .ok (.iload_n 1, 1) := by decide +kernel
theorem dX8_strike_64 : decode cX8_strike 64 = .ok (.iaload, 1) := by decide +kernel
theorem dX8_strike_65 : decode cX8_strike 65 = .ok (.ifCond .eq 18, 3) := by decide +kernel
theorem dX8_strike_68 : decode cX8_strike 68 = .ok (.aload_n 0, 1) := by decide +kernel
theorem dX8_strike_69 : decode cX8_strike 69 = .ok (.getfield 10, 3) := by decide +kernel
theorem dX8_strike_72 : decode cX8_strike 72 = .ok (.getfield 317, 3) := by decide +kernel
theorem dX8_strike_75 : decode cX8_strike 75 = .ok (.iload_n 3, 1) := by decide +kernel
theorem dX8_strike_76 : decode cX8_strike 76 = .ok (.aaload, 1) := by decide +kernel
theorem dX8_strike_77 : decode cX8_strike 77 = .ok (.iload_n 1, 1) := by decide +kernel
theorem dX8_strike_78 : decode cX8_strike 78 = .ok (.iconst 0, 1) := by decide +kernel
theorem dX8_strike_79 : decode cX8_strike 79 = .ok (.iastore, 1) := by decide +kernel
theorem dX8_strike_80 : decode cX8_strike 80 = .ok (.iinc 2 1, 3) := by decide +kernel
theorem dX8_strike_83 : decode cX8_strike 83 = .ok (.iinc 3 1, 3) := by decide +kernel
theorem dX8_strike_86 : decode cX8_strike 86 = .ok (.goto (-43), 3) := by decide +kernel
theorem dX8_strike_89 : decode cX8_strike 89 = .ok (.iload_n 2, 1) := by decide +kernel
theorem dX8_strike_90 : decode cX8_strike 90 = .ok (.ireturn, 1) := by decide +kernel
theorem dX8_changeReserve_0 : decode cX8_changeReserve 0 = .ok (.aload_n 0, 1) := by decide +kernel
theorem dX8_changeReserve_1 : decode cX8_changeReserve 1 = .ok (.getfield 10, 3) := by decide +kernel
theorem dX8_changeReserve_4 : decode cX8_changeReserve 4 = .ok (.iload_n 1, 1) := by decide +kernel
theorem dX8_changeReserve_5 : decode cX8_changeReserve 5 = .ok (.invokevirtual 141, 3) := by decide +kernel
theorem dX8_changeReserve_8 : decode cX8_changeReserve 8 = .ok (.ifCond .eq 25, 3) := by decide +kernel
theorem dX8_changeReserve_11 : decode cX8_changeReserve 11 = .ok (.iload_n 2, 1) := by decide +kernel
theorem dX8_changeReserve_12 : decode cX8_changeReserve 12 = .ok (.iconst 0, 1) := by decide +kernel
theorem dX8_changeReserve_13 : decode cX8_changeReserve 13 = .ok (.sipush 5999, 3) := by decide +kernel
theorem dX8_changeReserve_16 : decode cX8_changeReserve 16 = .ok (.invokestatic 127, 3) := by decide +kernel
theorem dX8_changeReserve_19 : decode cX8_changeReserve 19 = .ok (.ifCond .eq 14, 3) := by decide +kernel
theorem dX8_changeReserve_22 : decode cX8_changeReserve 22 = .ok (.iload_n 3, 1) := by decide +kernel
theorem dX8_changeReserve_23 : decode cX8_changeReserve 23 = .ok (.iload_n 2, 1) := by decide +kernel
theorem dX8_changeReserve_24 : decode cX8_changeReserve 24 = .ok (.sipush 6000, 3) := by decide +kernel
theorem dX8_changeReserve_27 : decode cX8_changeReserve 27 = .ok (.invokestatic 127, 3) := by decide +kernel
theorem dX8_changeReserve_30 : decode cX8_changeReserve 30 = .ok (.ifCond .ne 5, 3) := by decide +kernel
theorem dX8_changeReserve_33 : decode cX8_changeReserve 33 = .ok (.iconst (-1), 1) := by decide +kernel
theorem dX8_changeReserve_34 : decode cX8_changeReserve 34 = .ok (.ireturn, 1) := by decide +kernel
theorem dX8_changeReserve_35 : decode cX8_changeReserve 35 = .ok (.aload_n 0, 1) := by decide +kernel
theorem dX8_changeReserve_36 : decode cX8_changeReserve 36 = .ok (.getfield 10, 3) := by decide +kernel
theorem dX8_changeReserve_39 : decode cX8_changeReserve 39 = .ok (.iload_n 1, 1) := by decide +kernel
theorem dX8_changeReserve_40 : decode cX8_changeReserve 40 = .ok (.invokevirtual 220, 3) := by decide +kernel
theorem dX8_changeReserve_43 : decode cX8_changeReserve 43 = .ok (.ifCond .eq 7, 3) := by decide +kernel
theorem dX8_changeReserve_46 : decode cX8_changeReserve 46 = .ok (.iconst 1, 1) := by decide +kernel
theorem dX8_changeReserve_47 : decode cX8_changeReserve 47 = .ok (.goto 4, 3) := by decide +kernel
theorem dX8_changeReserve_50 : decode cX8_changeReserve 50 = .ok (.iconst 0, 1) := by decide +kernel
theorem dX8_changeReserve_51 : decode cX8_changeReserve 51 = .ok (.istore 4, 2) := by decide +kernel
theorem dX8_changeReserve_53 : decode cX8_changeReserve 53 = .ok (.aload_n 0, 1) := by decide +kernel
theorem dX8_changeReserve_54 : decode cX8_changeReserve 54 = .ok (.getfield 10, 3) := by decide +kernel
theorem dX8_changeReserve_57 : decode cX8_changeReserve 57 = .ok (.getfield 223, 3) := by decide +kernel
theorem dX8_changeReserve_60 : decode cX8_changeReserve 60 = .ok (.iload_n 1, 1) := by decide +kernel
theorem dX8_changeReserve_61 : decode cX8_changeReserve 61 = .ok (.iload_n 2, 1) := by decide +kernel
theorem dX8_changeReserve_62 : decode cX8_changeReserve 62 = .ok (.iastore, 1) := by decide +kernel
theorem dX8_changeReserve_63 : decode cX8_changeReserve 63 = .ok (.aload_n 0, 1) := by decide +kernel
theorem dX8_changeReserve_64 : decode cX8_changeReserve 64 = .ok (.getfield 10, 3) := by decide +kernel
theorem dX8_changeReserve_67 : decode cX8_changeReserve 67 = .ok (.getfield 226, 3) := by decide +kernel
theorem dX8_changeReserve_70 : decode cX8_changeReserve 70 = .ok (.iload_n 1, 1) := by decide +kernel
theorem dX8_changeReserve_71 : decode cX8_changeReserve 71 = .ok (.iload_n 3, 1) := by decide +kernel
theorem dX8_changeReserve_72 : decode cX8_changeReserve 72 = .ok (.iastore, 1) := by decide +kernel
theorem dX8_changeReserve_73 : decode cX8_changeReserve 73 = .ok (.iload 4, 2) := by decide +kernel
theorem dX8_changeReserve_75 : decode cX8_changeReserve 75 = .ok (.ireturn, 1) := by decide +kernel
theorem dX8_reasonAgainst_0 : decode cX8_reasonAgainst 0 = .ok (.aload_n 0, 1) := by decide +kernel
theorem dX8_reasonAgainst_1 : decode cX8_reasonAgainst 1 = .ok (.getfield 10, 3) := by decide +kernel
theorem dX8_reasonAgainst_4 : decode cX8_reasonAgainst 4 = .ok (.getfield 117, 3) := by decide +kernel
theorem dX8_reasonAgainst_7 : decode cX8_reasonAgainst 7 = .ok (.iload_n 2, 1) := by decide +kernel
theorem dX8_reasonAgainst_8 : decode cX8_reasonAgainst 8 = .ok (.iaload, 1) := by decide +kernel
theorem dX8_reasonAgainst_9 : decode cX8_reasonAgainst 9 = .ok (.iconst 1, 1) := by decide +kernel
theorem dX8_reasonAgainst_10 : decode cX8_reasonAgainst 10 = .ok (.if_icmp .ne 6, 3) := by decide +kernel
theorem dX8_reasonAgainst_13 : decode cX8_reasonAgainst 13 = .ok (.bipush 10, 2) := by decide +kernel
theorem dX8_reasonAgainst_15 : decode cX8_reasonAgainst 15 = .ok (.ireturn, 1) := by decide +kernel
theorem dX8_reasonAgainst_16 : decode cX8_reasonAgainst 16 = .ok (.aload_n 0, 1) := by decide +kernel
theorem dX8_reasonAgainst_17 : decode cX8_reasonAgainst 17 = .ok (.getfield 10, 3) := by decide +kernel
theorem dX8_reasonAgainst_20 : decode cX8_reasonAgainst 20 = .ok (.getfield 317, 3) := by decide +kernel
theorem dX8_reasonAgainst_23 : decode cX8_reasonAgainst 23 = .ok (.iload_n 1, 1) := by decide +kernel
theorem dX8_reasonAgainst_24 : decode cX8_reasonAgainst 24 = .ok (.aaload, 1) := by decide +kernel
theorem dX8_reasonAgainst_25 : decode cX8_reasonAgainst 25 = .ok (.iload_n 2, 1) := by decide +kernel
theorem dX8_reasonAgainst_26 : decode cX8_reasonAgainst 26 = .ok (.iaload, 1) := by decide +kernel
theorem dX8_reasonAgainst_27 : decode cX8_reasonAgainst 27 = .ok (.ifCond .eq 6, 3) := by decide +kernel
theorem dX8_reasonAgainst_30 : decode cX8_reasonAgainst 30 = .ok (.bipush 9, 2) := by decide +kernel
theorem dX8_reasonAgainst_32 : decode cX8_reasonAgainst 32 = .ok (.ireturn, 1) := by decide +kernel
theorem dX8_reasonAgainst_33 : decode cX8_reasonAgainst 33 = .ok (.iload_n 3, 1) := by decide +kernel
theorem dX8_reasonAgainst_34 : decode cX8_reasonAgainst 34 = .ok (.iconst 1, 1) := by decide +kernel
theorem dX8_reasonAgainst_35 : decode cX8_reasonAgainst 35 = .ok (.if_icmp .ne 19, 3) := by decide +kernel
theorem dX8_reasonAgainst_38 : decode cX8_reasonAgainst 38 = .ok (.aload_n 0, 1) := by decide +kernel
theorem dX8_reasonAgainst_39 : decode cX8_reasonAgainst 39 = .ok (.getfield 10, 3) := by decide +kernel
theorem dX8_reasonAgainst_42 : decode cX8_reasonAgainst 42 = .ok (.iload_n 2, 1) := by decide +kernel
theorem dX8_reasonAgainst_43 : decode cX8_reasonAgainst 43 = .ok (.invokevirtual 120, 3) := by decide +kernel
theorem dX8_reasonAgainst_46 : decode cX8_reasonAgainst 46 = .ok (.bipush (-2), 2) := by decide +kernel
theorem dX8_reasonAgainst_48 : decode cX8_reasonAgainst 48 = .ok (.if_icmp .eq 6, 3) := by decide +kernel
theorem dX8_reasonAgainst_51 : decode cX8_reasonAgainst 51 = .ok (.bipush 8, 2) := by decide +kernel
theorem dX8_reasonAgainst_53 : decode cX8_reasonAgainst 53 = .ok (.ireturn, 1) := by decide +kernel
theorem dX8_reasonAgainst_54 : decode cX8_reasonAgainst 54 = .ok (.aload_n 0, 1) := by decide +kernel
theorem dX8_reasonAgainst_55 : decode cX8_reasonAgainst 55 = .ok (.getfield 10, 3) := by decide +kernel
theorem dX8_reasonAgainst_58 : decode cX8_reasonAgainst 58 = .ok (.getfield 317, 3) := by decide +kernel
theorem dX8_reasonAgainst_61 : decode cX8_reasonAgainst 61 = .ok (.iload_n 1, 1) := by decide +kernel
theorem dX8_reasonAgainst_62 : decode cX8_reasonAgainst 62 = .ok (.aaload, 1) := by decide +kernel
theorem dX8_reasonAgainst_63 : decode cX8_reasonAgainst 63 = .ok (.iload_n 2, 1) := by decide +kernel
theorem dX8_reasonAgainst_64 : decode cX8_reasonAgainst 64 = .ok (.iload_n 3, 1) := by decide +kernel
theorem dX8_reasonAgainst_65 : decode cX8_reasonAgainst 65 = .ok (.iastore, 1) := by decide +kernel
theorem dX8_reasonAgainst_66 : decode cX8_reasonAgainst 66 = .ok (.aload_n 0, 1) := by decide +kernel
theorem dX8_reasonAgainst_67 : decode cX8_reasonAgainst 67 = .ok (.getfield 38, 3) := by decide +kernel
theorem dX8_reasonAgainst_70 : decode cX8_reasonAgainst 70 = .ok (.iload_n 1, 1) := by decide +kernel
theorem dX8_reasonAgainst_71 : decode cX8_reasonAgainst 71 = .ok (.invokevirtual 150, 3) := by decide +kernel
theorem dX8_reasonAgainst_74 : decode cX8_reasonAgainst 74 = .ok (.aload_n 0, 1) := by decide +kernel
theorem dX8_reasonAgainst_75 : decode cX8_reasonAgainst 75 = .ok (.getfield 10, 3) := by decide +kernel
theorem dX8_reasonAgainst_78 : decode cX8_reasonAgainst 78 = .ok (.getfield 317, 3) := by decide +kernel
theorem dX8_reasonAgainst_81 : decode cX8_reasonAgainst 81 = .ok (.iload_n 1, 1) := by decide +kernel
theorem dX8_reasonAgainst_82 : decode cX8_reasonAgainst 82 = .ok (.aaload, 1) := by decide +kernel
theorem dX8_reasonAgainst_83 : decode cX8_reasonAgainst 83 = .ok (.iload_n 2, 1) := by decide +kernel
theorem dX8_reasonAgainst_84 : decode cX8_reasonAgainst 84 = .ok (.iconst 0, 1) := by decide +kernel
theorem dX8_reasonAgainst_85 : decode cX8_reasonAgainst 85 = .ok (.iastore, 1) := by decide +kernel
theorem dX8_reasonAgainst_86 : decode cX8_reasonAgainst 86 = .ok (.aload_n 0, 1) := by decide +kernel
theorem dX8_reasonAgainst_87 : decode cX8_reasonAgainst 87 = .ok (.getfield 38, 3) := by decide +kernel
theorem dX8_reasonAgainst_90 : decode cX8_reasonAgainst 90 = .ok (.iconst 1, 1) := by decide +kernel
theorem dX8_reasonAgainst_91 : decode cX8_reasonAgainst 91 = .ok (.invokevirtual 182, 3) := by decide +kernel
theorem dX8_reasonAgainst_94 : decode cX8_reasonAgainst 94 = .ok (.ifCond .ne 7, 3) := by decide +kernel
theorem dX8_reasonAgainst_97 : decode cX8_reasonAgainst 97 = .ok (.iconst 0, 1) := by decide +kernel
theorem dX8_reasonAgainst_98 : decode cX8_reasonAgainst 98 = .ok (.goto 12, 3) := by decide +kernel
theorem dX8_reasonAgainst_101 : decode cX8_reasonAgainst 101 = .ok (.aload_n 0, 1) := by decide +kernel
theorem dX8_reasonAgainst_102 : decode cX8_reasonAgainst 102 = .ok (.getfield 38, 3) := by decide +kernel
theorem dX8_reasonAgainst_105 : decode cX8_reasonAgainst 105 = .ok (.getfield 185, 3) := by decide +kernel
theorem dX8_reasonAgainst_108 : decode cX8_reasonAgainst 108 = .ok (.iconst 0, 1) := by decide +kernel
theorem dX8_reasonAgainst_109 : decode cX8_reasonAgainst 109 = .ok (.iaload, 1) := by decide +kernel
theorem dX8_reasonAgainst_110 : decode cX8_reasonAgainst 110 = .ok (.ireturn, 1) := by decide +kernel
theorem dX8_costOf_0 : decode cX8_costOf 0 = .ok (.aload_n 0, 1) := by decide +kernel
theorem dX8_costOf_1 : decode cX8_costOf 1 = .ok (.getfield 38, 3) := by decide +kernel
theorem dX8_costOf_4 : decode cX8_costOf 4 = .ok (.iload_n 1, 1) := by decide +kernel
theorem dX8_costOf_5 : decode cX8_costOf 5 = .ok (.invokevirtual 150, 3) := by decide +kernel
theorem dX8_costOf_8 : decode cX8_costOf 8 = .ok (.iconst 0, 1) := by decide +kernel
theorem dX8_costOf_9 : decode cX8_costOf 9 = .ok (.istore_n 3, 1) := by decide +kernel
theorem dX8_costOf_10 : decode cX8_costOf 10 = .ok (.iload_n 2, 1) := by decide +kernel
theorem dX8_costOf_11 : decode cX8_costOf 11 = .ok (.iconst 1, 1) := by decide +kernel
theorem dX8_costOf_12 : decode cX8_costOf 12 = .ok (.if_icmp .eq 24, 3) := by decide +kernel
theorem dX8_costOf_15 : decode cX8_costOf 15 = .ok (.iload_n 3, 1) := by decide +kernel
theorem dX8_costOf_16 : decode cX8_costOf 16 = .ok (.aload_n 0, 1) := by decide +kernel
theorem dX8_costOf_17 : decode cX8_costOf 17 = .ok (.getfield 38, 3) := by decide +kernel
theorem dX8_costOf_20 : decode cX8_costOf 20 = .ok (.invokevirtual 324, 3) := by decide +kernel
theorem dX8_costOf_23 : decode cX8_costOf 23 = .ok (.aload_n 0, 1) := by decide +kernel
theorem dX8_costOf_24 : decode cX8_costOf 24 = .ok (.getfield 10, 3) := by decide +kernel
theorem dX8_costOf_27 : decode cX8_costOf 27 = .ok (.getfield 131, 3) := by decide +kernel
theorem dX8_costOf_30 : decode cX8_costOf 30 = .ok (.bipush 6, 2) := by decide +kernel
theorem dX8_costOf_32 : decode cX8_costOf 32 = .ok (.iaload, 1) := by decide +kernel
theorem dX8_costOf_33 : decode cX8_costOf 33 = .ok (.imul, 1) := by decide +kernel
theorem dX8_costOf_34 : decode cX8_costOf 34 = .ok (.iadd, 1) := by decide +kernel
theorem dX8_costOf_35 : decode cX8_costOf 35 = .ok (.istore_n 3, 1) := by decide +kernel
theorem dX8_costOf_36 : decode cX8_costOf 36 = .ok (.iload_n 2, 1) := by decide +kernel
theorem dX8_costOf_37 : decode cX8_costOf 37 = .ok (.ifCond .eq 24, 3) := by decide +kernel
theorem dX8_costOf_40 : decode cX8_costOf 40 = .ok (.iload_n 3, 1) := by decide +kernel
theorem dX8_costOf_41 : decode cX8_costOf 41 = .ok (.aload_n 0, 1) := by decide +kernel
theorem dX8_costOf_42 : decode cX8_costOf 42 = .ok (.getfield 38, 3) := by decide +kernel
theorem dX8_costOf_45 : decode cX8_costOf 45 = .ok (.invokevirtual 327, 3) := by decide +kernel
theorem dX8_costOf_48 : decode cX8_costOf 48 = .ok (.aload_n 0, 1) := by decide +kernel
theorem dX8_costOf_49 : decode cX8_costOf 49 = .ok (.getfield 10, 3) := by decide +kernel
theorem dX8_costOf_52 : decode cX8_costOf 52 = .ok (.getfield 131, 3) := by decide +kernel
theorem dX8_costOf_55 : decode cX8_costOf 55 = .ok (.bipush 7, 2) := by decide +kernel
theorem dX8_costOf_57 : decode cX8_costOf 57 = .ok (.iaload, 1) := by decide +kernel
theorem dX8_costOf_58 : decode cX8_costOf 58 = .ok (.imul, 1) := by decide +kernel
theorem dX8_costOf_59 : decode cX8_costOf 59 = .ok (.iadd, 1) := by decide +kernel
theorem dX8_costOf_60 : decode cX8_costOf 60 = .ok (.istore_n 3, 1) := by decide +kernel
theorem dX8_costOf_61 : decode cX8_costOf 61 = .ok (.iload_n 3, 1) := by decide +kernel
theorem dX8_costOf_62 : decode cX8_costOf 62 = .ok (.ireturn, 1) := by decide +kernel
theorem dX8_reserveFor_0 : decode cX8_reserveFor 0 = .ok (.bipush (-2), 2) := by decide +kernel
theorem dX8_reserveFor_2 : decode cX8_reserveFor 2 = .ok (.istore_n 2, 1) := by decide +kernel
theorem dX8_reserveFor_3 : decode cX8_reserveFor 3 = .ok (.aload_n 0, 1) := by decide +kernel
theorem dX8_reserveFor_4 : decode cX8_reserveFor 4 = .ok (.getfield 10, 3) := by decide +kernel
theorem dX8_reserveFor_7 : decode cX8_reserveFor 7 = .ok (.iload_n 1, 1) := by decide +kernel
theorem dX8_reserveFor_8 : decode cX8_reserveFor 8 = .ok (.invokevirtual 205, 3) := by decide +kernel
theorem dX8_reserveFor_11 : decode cX8_reserveFor 11 = .ok (.ifCond .ne 5, 3) := by decide +kernel
theorem dX8_reserveFor_14 : decode cX8_reserveFor 14 = .ok (.iload_n 2, 1) := by decide +kernel
theorem dX8_reserveFor_15 : decode cX8_reserveFor 15 = .ok (.ireturn, 1) := by decide +kernel
theorem dX8_reserveFor_16 : decode cX8_reserveFor 16 = .ok (.iconst 0, 1) := by decide +kernel
theorem dX8_reserveFor_17 : decode cX8_reserveFor 17 = .ok (.istore_n 3, 1) := by decide +kernel
theorem dX8_reserveFor_18 : decode cX8_reserveFor 18 = .ok (.iconst 0, 1) := by decide +kernel
theorem dX8_reserveFor_19 : decode cX8_reserveFor 19 = .ok (.istore 4, 2) := by decide +kernel
theorem dX8_reserveFor_21 : decode cX8_reserveFor 21 = .ok (.iload 4, 2) := by decide +kernel
theorem dX8_reserveFor_23 : decode cX8_reserveFor 23 = .ok (.aload_n 0, 1) := by decide +kernel
theorem dX8_reserveFor_24 : decode cX8_reserveFor 24 = .ok (.getfield 10, 3) := by decide +kernel
theorem dX8_reserveFor_27 : decode cX8_reserveFor 27 = .ok (.getfield 97, 3) := by decide +kernel
theorem dX8_reserveFor_30 : decode cX8_reserveFor 30 = .ok (.if_icmp .ge 62, 3) := by decide +kernel
theorem dX8_reserveFor_33 : decode cX8_reserveFor 33 = .ok (.aload_n 0, 1) := by decide +kernel
theorem dX8_reserveFor_34 : decode cX8_reserveFor 34 = .ok (.getfield 10, 3) := by decide +kernel
theorem dX8_reserveFor_37 : decode cX8_reserveFor 37 = .ok (.iload 4, 2) := by decide +kernel
theorem dX8_reserveFor_39 : decode cX8_reserveFor 39 = .ok (.iload_n 1, 1) := by decide +kernel
theorem dX8_reserveFor_40 : decode cX8_reserveFor 40 = .ok (.invokevirtual 330, 3) := by decide +kernel
theorem dX8_reserveFor_43 : decode cX8_reserveFor 43 = .ok (.ifCond .eq 43, 3) := by decide +kernel
theorem dX8_reserveFor_46 : decode cX8_reserveFor 46 = .ok (.aload_n 0, 1) := by decide +kernel
theorem dX8_reserveFor_47 : decode cX8_reserveFor 47 = .ok (.iload 4, 2) := by decide +kernel
theorem dX8_reserveFor_49 : decode cX8_reserveFor 49 = .ok (.iload_n 1, 1) := by decide +kernel
theorem dX8_reserveFor_50 : decode cX8_reserveFor 50 = .ok (.iconst 1, 1) := by decide +kernel
theorem dX8_reserveFor_51 : decode cX8_reserveFor 51 = .ok (.invokevirtual 144, 3) := by decide +kernel
theorem dX8_reserveFor_54 : decode cX8_reserveFor 54 = .ok (.ifCond .ne 32, 3) := by decide +kernel
theorem dX8_reserveFor_57 : decode cX8_reserveFor 57 = .ok (.aload_n 0, 1) := by decide +kernel
theorem dX8_reserveFor_58 : decode cX8_reserveFor 58 = .ok (.getfield 10, 3) := by decide +kernel
theorem dX8_reserveFor_61 : decode cX8_reserveFor 61 = .ok (.iload 4, 2) := by decide +kernel
theorem dX8_reserveFor_63 : decode cX8_reserveFor 63 = .ok (.invokevirtual 188, 3) := by decide +kernel
theorem dX8_reserveFor_66 : decode cX8_reserveFor 66 = .ok (.istore 5, 2) := by decide +kernel
theorem dX8_reserveFor_68 : decode cX8_reserveFor 68 = .ok (.iload_n 2, 1) := by decide +kernel
theorem dX8_reserveFor_69 : decode cX8_reserveFor 69 = .ok (.bipush (-2), 2) := by decide +kernel
theorem dX8_reserveFor_71 : decode cX8_reserveFor 71 = .ok (.if_icmp .eq 9, 3) := by decide +kernel
theorem dX8_reserveFor_74 : decode cX8_reserveFor 74 = .ok (.iload 5, 2) := by decide +kernel
theorem dX8_reserveFor_76 : decode cX8_reserveFor 76 = .ok (.iload_n 3, 1) := by decide +kernel
theorem dX8_reserveFor_77 : decode cX8_reserveFor 77 = .ok (.if_icmp .ge 9, 3) := by decide +kernel
theorem dX8_reserveFor_80 : decode cX8_reserveFor 80 = .ok (.iload 4, 2) := by decide +kernel
theorem dX8_reserveFor_82 : decode cX8_reserveFor 82 = .ok (.istore_n 2, 1) := by decide +kernel
theorem dX8_reserveFor_83 : decode cX8_reserveFor 83 = .ok (.iload 5, 2) := by decide +kernel
theorem dX8_reserveFor_85 : decode cX8_reserveFor 85 = .ok (.istore_n 3, 1) := by decide +kernel
theorem dX8_reserveFor_86 : decode cX8_reserveFor 86 = .ok (.iinc 4 1, 3) := by decide +kernel
theorem dX8_reserveFor_89 : decode cX8_reserveFor 89 = .ok (.goto (-68), 3) := by decide +kernel
theorem dX8_reserveFor_92 : decode cX8_reserveFor 92 = .ok (.iload_n 2, 1) := by decide +kernel
theorem dX8_reserveFor_93 : decode cX8_reserveFor 93 = .ok (.ireturn, 1) := by decide +kernel
theorem dX8_pairOpenLegs_0 : decode cX8_pairOpenLegs 0 = .ok (.iconst 0, 1) := by decide +kernel
theorem dX8_pairOpenLegs_1 : decode cX8_pairOpenLegs 1 = .ok (.istore_n 1, 1) := by decide +kernel
theorem dX8_pairOpenLegs_2 : decode cX8_pairOpenLegs 2 = .ok (.iconst 0, 1) := by decide +kernel
theorem dX8_pairOpenLegs_3 : decode cX8_pairOpenLegs 3 = .ok (.istore_n 2, 1) := by decide +kernel
theorem dX8_pairOpenLegs_4 : decode cX8_pairOpenLegs 4 = .ok (.iload_n 2, 1) := by decide +kernel
theorem dX8_pairOpenLegs_5 : decode cX8_pairOpenLegs 5 = .ok (.aload_n 0, 1) := by decide +kernel
theorem dX8_pairOpenLegs_6 : decode cX8_pairOpenLegs 6 = .ok (.getfield 10, 3) := by decide +kernel
theorem dX8_pairOpenLegs_9 : decode cX8_pairOpenLegs 9 = .ok (.getfield 93, 3) := by decide +kernel
theorem dX8_pairOpenLegs_12 : decode cX8_pairOpenLegs 12 = .ok (.if_icmp .ge 93, 3) := by decide +kernel
theorem dX8_pairOpenLegs_15 : decode cX8_pairOpenLegs 15 = .ok (.aload_n 0, 1) := by decide +kernel
theorem dX8_pairOpenLegs_16 : decode cX8_pairOpenLegs 16 = .ok (.getfield 10, 3) := by decide +kernel
theorem dX8_pairOpenLegs_19 : decode cX8_pairOpenLegs 19 = .ok (.getfield 208, 3) := by decide +kernel
theorem dX8_pairOpenLegs_22 : decode cX8_pairOpenLegs 22 = .ok (.iload_n 2, 1) := by decide +kernel
theorem dX8_pairOpenLegs_23 : decode cX8_pairOpenLegs 23 = .ok (.iaload, 1) := by decide +kernel
theorem dX8_pairOpenLegs_24 : decode cX8_pairOpenLegs 24 = .ok (.istore_n 3, 1) := by decide +kernel
theorem dX8_pairOpenLegs_25 : decode cX8_pairOpenLegs 25 = .ok (.aload_n 0, 1) := by decide +kernel
theorem dX8_pairOpenLegs_26 : decode cX8_pairOpenLegs 26 = .ok (.iload_n 3, 1) := by decide +kernel
theorem dX8_pairOpenLegs_27 : decode cX8_pairOpenLegs 27 = .ok (.invokevirtual 235, 3) := by decide +kernel
theorem dX8_pairOpenLegs_30 : decode cX8_pairOpenLegs 30 = .ok (.aload_n 0, 1) := by decide +kernel
theorem dX8_pairOpenLegs_31 : decode cX8_pairOpenLegs 31 = .ok (.getfield 45, 3) := by decide +kernel
theorem dX8_pairOpenLegs_34 : decode cX8_pairOpenLegs 34 = .ok (.getfield 238, 3) := by decide +kernel
theorem dX8_pairOpenLegs_37 : decode cX8_pairOpenLegs 37 = .ok (.bipush (-2), 2) := by decide +kernel
theorem dX8_pairOpenLegs_39 : decode cX8_pairOpenLegs 39 = .ok (.if_icmp .eq 60, 3) := by decide +kernel
theorem dX8_pairOpenLegs_42 : decode cX8_pairOpenLegs 42 = .ok (.aload_n 0, 1) := by decide +kernel
theorem dX8_pairOpenLegs_43 : decode cX8_pairOpenLegs 43 = .ok (.getfield 45, 3) := by decide +kernel
theorem dX8_pairOpenLegs_46 : decode cX8_pairOpenLegs 46 = .ok (.getfield 241, 3) := by decide +kernel
theorem dX8_pairOpenLegs_49 : decode cX8_pairOpenLegs 49 = .ok (.bipush (-2), 2) := by decide +kernel
theorem dX8_pairOpenLegs_51 : decode cX8_pairOpenLegs 51 = .ok (.if_icmp .eq 27, 3) := by decide +kernel
theorem dX8_pairOpenLegs_54 : decode cX8_pairOpenLegs 54 = .ok (.aload_n 0, 1) := by decide +kernel
theorem dX8_pairOpenLegs_55 : decode cX8_pairOpenLegs 55 = .ok (.getfield 10, 3) := by decide +kernel
theorem dX8_pairOpenLegs_58 : decode cX8_pairOpenLegs 58 = .ok (.getfield 317, 3) := by decide +kernel
theorem dX8_pairOpenLegs_61 : decode cX8_pairOpenLegs 61 = .ok (.aload_n 0, 1) := by decide +kernel
theorem dX8_pairOpenLegs_62 : decode cX8_pairOpenLegs 62 = .ok (.getfield 45, 3) := by decide +kernel
theorem dX8_pairOpenLegs_65 : decode cX8_pairOpenLegs 65 = .ok (.getfield 238, 3) := by decide +kernel
theorem dX8_pairOpenLegs_68 : decode cX8_pairOpenLegs 68 = .ok (.aaload, 1) := by decide +kernel
theorem dX8_pairOpenLegs_69 : decode cX8_pairOpenLegs 69 = .ok (.aload_n 0, 1) := by decide +kernel
theorem dX8_pairOpenLegs_70 : decode cX8_pairOpenLegs 70 = .ok (.getfield 45, 3) := by decide +kernel
theorem dX8_pairOpenLegs_73 : decode cX8_pairOpenLegs 73 = .ok (.getfield 241, 3) := by decide +kernel
theorem dX8_pairOpenLegs_76 : decode cX8_pairOpenLegs 76 = .ok (.iconst 2, 1) := by decide +kernel
theorem dX8_pairOpenLegs_77 : decode cX8_pairOpenLegs 77 = .ok (.iastore, 1) := by decide +kernel
theorem dX8_pairOpenLegs_78 : decode cX8_pairOpenLegs 78 = .ok (.aload_n 0, 1) := by decide +kernel
theorem dX8_pairOpenLegs_79 : decode cX8_pairOpenLegs 79 = .ok (.getfield 10, 3) := by decide +kernel
theorem dX8_pairOpenLegs_82 : decode cX8_pairOpenLegs 82 = .ok (.getfield 317, 3) := by decide +kernel
theorem dX8_pairOpenLegs_85 : decode cX8_pairOpenLegs 85 = .ok (.aload_n 0, 1) := by decide +kernel
theorem dX8_pairOpenLegs_86 : decode cX8_pairOpenLegs 86 = .ok (.getfield 45, 3) := by decide +kernel
theorem dX8_pairOpenLegs_89 : decode cX8_pairOpenLegs 89 = .ok (.getfield 238, 3) := by decide +kernel
theorem dX8_pairOpenLegs_92 : decode cX8_pairOpenLegs 92 = .ok (.aaload, 1) := by decide +kernel
theorem dX8_pairOpenLegs_93 : decode cX8_pairOpenLegs 93 = .ok (.iload_n 3, 1) := by decide +kernel
theorem dX8_pairOpenLegs_94 : decode cX8_pairOpenLegs 94 = .ok (.iconst 1, 1) := by decide +kernel
theorem dX8_pairOpenLegs_95 : decode cX8_pairOpenLegs 95 = .ok (.iastore, 1) := by decide +kernel
theorem dX8_pairOpenLegs_96 : decode cX8_pairOpenLegs 96 = .ok (.iinc 1 1, 3) := by decide +kernel
theorem dX8_pairOpenLegs_99 : decode cX8_pairOpenLegs 99 = .ok (.iinc 2 1, 3) := by decide +kernel
theorem dX8_pairOpenLegs_102 : decode cX8_pairOpenLegs 102 = .ok (.goto (-98), 3) := by decide +kernel
theorem dX8_pairOpenLegs_105 : decode cX8_pairOpenLegs 105 = .ok (.iload_n 1, 1) := by decide +kernel
theorem dX8_pairOpenLegs_106 : decode cX8_pairOpenLegs 106 = .ok (.ireturn, 1) := by decide +kernel
theorem dX8_findOffer_0 : decode cX8_findOffer 0 = .ok (.aload_n 0, 1) := by decide +kernel
theorem dX8_findOffer_1 : decode cX8_findOffer 1 = .ok (.getfield 45, 3) := by decide +kernel
theorem dX8_findOffer_4 : decode cX8_findOffer 4 = .ok (.bipush (-2), 2) := by decide +kernel
theorem dX8_findOffer_6 : decode cX8_findOffer 6 = .ok (.putfield 238, 3) := by decide +kernel
theorem dX8_findOffer_9 : decode cX8_findOffer 9 = .ok (.aload_n 0, 1) := by decide +kernel
theorem dX8_findOffer_10 : decode cX8_findOffer 10 = .ok (.getfield 10, 3) := by decide +kernel
theorem dX8_findOffer_13 : decode cX8_findOffer 13 = .ok (.iload_n 1, 1) := by decide +kernel
theorem dX8_findOffer_14 : decode cX8_findOffer 14 = .ok (.invokevirtual 205, 3) := by decide +kernel
theorem dX8_findOffer_17 : decode cX8_findOffer 17 = .ok (.ifCond .ne 4, 3) := by decide +kernel
theorem dX8_findOffer_20 : decode cX8_findOffer 20 = .ok (.return_, 1) := by decide +kernel
theorem dX8_findOffer_21 : decode cX8_findOffer 21 = .ok (.iconst 0, 1) := by decide +kernel
theorem dX8_findOffer_22 : decode cX8_findOffer 22 = .ok (.istore_n 2, 1) := by decide +kernel
theorem dX8_findOffer_23 : decode cX8_findOffer 23 = .ok (.iload_n 2, 1) := by decide +kernel
theorem dX8_findOffer_24 : decode cX8_findOffer 24 = .ok (.aload_n 0, 1) := by decide +kernel
theorem dX8_findOffer_25 : decode cX8_findOffer 25 = .ok (.getfield 10, 3) := by decide +kernel
theorem dX8_findOffer_28 : decode cX8_findOffer 28 = .ok (.getfield 97, 3) := by decide +kernel
theorem dX8_findOffer_31 : decode cX8_findOffer 31 = .ok (.if_icmp .ge 208, 3) := by decide +kernel
theorem dX8_findOffer_34 : decode cX8_findOffer 34 = .ok (.aload_n 0, 1) := by decide +kernel
theorem dX8_findOffer_35 : decode cX8_findOffer 35 = .ok (.getfield 10, 3) := by decide +kernel
theorem dX8_findOffer_38 : decode cX8_findOffer 38 = .ok (.iload_n 2, 1) := by decide +kernel
theorem dX8_findOffer_39 : decode cX8_findOffer 39 = .ok (.invokevirtual 220, 3) := by decide +kernel
theorem dX8_findOffer_42 : decode cX8_findOffer 42 = .ok (.ifCond .eq 6, 3) := by decide +kernel
theorem dX8_findOffer_45 : decode cX8_findOffer 45 = .ok (.goto 188, 3) := by decide +kernel
theorem dX8_findOffer_48 : decode cX8_findOffer 48 = .ok (.aload_n 0, 1) := by decide +kernel
theorem dX8_findOffer_49 : decode cX8_findOffer 49 = .ok (.getfield 10, 3) := by decide +kernel
theorem dX8_findOffer_52 : decode cX8_findOffer 52 = .ok (.iload_n 2, 1) := by decide +kernel
theorem dX8_findOffer_53 : decode cX8_findOffer 53 = .ok (.invokevirtual 188, 3) := by decide +kernel
theorem dX8_findOffer_56 : decode cX8_findOffer 56 = .ok (.istore_n 3, 1) := by decide +kernel
theorem dX8_findOffer_57 : decode cX8_findOffer 57 = .ok (.aload_n 0, 1) := by decide +kernel
theorem dX8_findOffer_58 : decode cX8_findOffer 58 = .ok (.getfield 45, 3) := by decide +kernel
theorem dX8_findOffer_61 : decode cX8_findOffer 61 = .ok (.iconst 0, 1) := by decide +kernel
theorem dX8_findOffer_62 : decode cX8_findOffer 62 = .ok (.iload_n 3, 1) := by decide +kernel
theorem dX8_findOffer_63 : decode cX8_findOffer 63 = .ok (.invokevirtual 334, 3) := by decide +kernel
theorem dX8_findOffer_66 : decode cX8_findOffer 66 = .ok (.ifCond .eq 25, 3) := by decide +kernel
theorem dX8_findOffer_69 : decode cX8_findOffer 69 = .ok (.aload_n 0, 1) := by decide +kernel
theorem dX8_findOffer_70 : decode cX8_findOffer 70 = .ok (.iload_n 2, 1) := by decide +kernel
theorem dX8_findOffer_71 : decode cX8_findOffer 71 = .ok (.iload_n 1, 1) := by decide +kernel
theorem dX8_findOffer_72 : decode cX8_findOffer 72 = .ok (.iconst 1, 1) := by decide +kernel
theorem dX8_findOffer_73 : decode cX8_findOffer 73 = .ok (.invokevirtual 144, 3) := by decide +kernel
theorem dX8_findOffer_76 : decode cX8_findOffer 76 = .ok (.ifCond .ne 15, 3) := by decide +kernel
theorem dX8_findOffer_79 : decode cX8_findOffer 79 = .ok (.aload_n 0, 1) := by decide +kernel
theorem dX8_findOffer_80 : decode cX8_findOffer 80 = .ok (.getfield 45, 3) := by decide +kernel
theorem dX8_findOffer_83 : decode cX8_findOffer 83 = .ok (.iload_n 2, 1) := by decide +kernel
theorem dX8_findOffer_84 : decode cX8_findOffer 84 = .ok (.bipush (-2), 2) := by decide +kernel
theorem dX8_findOffer_86 : decode cX8_findOffer 86 = .ok (.iconst 0, 1) := by decide +kernel
theorem dX8_findOffer_87 : decode cX8_findOffer 87 = .ok (.iload_n 3, 1) := by decide +kernel
theorem dX8_findOffer_88 : decode cX8_findOffer 88 = .ok (.invokevirtual 337, 3) := by decide +kernel
theorem dX8_findOffer_91 : decode cX8_findOffer 91 = .ok (.iconst 0, 1) := by decide +kernel
theorem dX8_findOffer_92 : decode cX8_findOffer 92 = .ok (.istore 4, 2) := by decide +kernel
theorem dX8_findOffer_94 : decode cX8_findOffer 94 = .ok (.iload 4, 2) := by decide +kernel
theorem dX8_findOffer_96 : decode cX8_findOffer 96 = .ok (.aload_n 0, 1) := by decide +kernel
theorem dX8_findOffer_97 : decode cX8_findOffer 97 = .ok (.getfield 10, 3) := by decide +kernel
theorem dX8_findOffer_100 : decode cX8_findOffer 100 = .ok (.getfield 93, 3) := by decide +kernel
theorem dX8_findOffer_103 : decode cX8_findOffer 103 = .ok (.if_icmp .ge 130, 3) := by decide +kernel
theorem dX8_findOffer_106 : decode cX8_findOffer 106 = .ok (.aload_n 0, 1) := by decide +kernel
theorem dX8_findOffer_107 : decode cX8_findOffer 107 = .ok (.getfield 10, 3) := by decide +kernel
theorem dX8_findOffer_110 : decode cX8_findOffer 110 = .ok (.iload 4, 2) := by decide +kernel
theorem dX8_findOffer_112 : decode cX8_findOffer 112 = .ok (.invokevirtual 341, 3) := by decide +kernel
theorem dX8_findOffer_115 : decode cX8_findOffer 115 = .ok (.aload_n 0, 1) := by decide +kernel
theorem dX8_findOffer_116 : decode cX8_findOffer 116 = .ok (.getfield 10, 3) := by decide +kernel
theorem dX8_findOffer_119 : decode cX8_findOffer 119 = .ok (.getfield 131, 3) := by decide +kernel
theorem dX8_findOffer_122 : decode cX8_findOffer 122 = .ok (.bipush 6, 2) := by decide +kernel
theorem dX8_findOffer_124 : decode cX8_findOffer 124 = .ok (.iaload, 1) := by decide +kernel
theorem dX8_findOffer_125 : decode cX8_findOffer 125 = .ok (.imul, 1) := by decide +kernel
theorem dX8_findOffer_126 : decode cX8_findOffer 126 = .ok (.istore 5, 2) := by decide +kernel
theorem dX8_findOffer_128 : decode cX8_findOffer 128 = .ok (.aload_n 0, 1) := by decide +kernel
theorem dX8_findOffer_129 : decode cX8_findOffer 129 = .ok (.getfield 10, 3) := by decide +kernel
theorem dX8_findOffer_132 : decode cX8_findOffer 132 = .ok (.getfield 111, 3) := by decide +kernel
theorem dX8_findOffer_135 : decode cX8_findOffer 135 = .ok (.iload 4, 2) := by decide +kernel
theorem dX8_findOffer_137 : decode cX8_findOffer 137 = .ok (.iaload, 1) := by decide +kernel
theorem dX8_findOffer_138 : decode cX8_findOffer 138 = .ok (.aload_n 0, 1) := by decide +kernel
theorem dX8_findOffer_139 : decode cX8_findOffer 139 = .ok (.getfield 10, 3) := by decide +kernel
theorem dX8_findOffer_142 : decode cX8_findOffer 142 = .ok (.getfield 111, 3) := by decide +kernel
theorem dX8_findOffer_145 : decode cX8_findOffer 145 = .ok (.iload_n 1, 1) := by decide +kernel
theorem dX8_findOffer_146 : decode cX8_findOffer 146 = .ok (.iaload, 1) := by decide +kernel
theorem dX8_findOffer_147 : decode cX8_findOffer 147 = .ok (.if_icmp .ge 80, 3) := by decide +kernel
theorem dX8_findOffer_150 : decode cX8_findOffer 150 = .ok (.aload_n 0, 1) := by decide +kernel
theorem dX8_findOffer_151 : decode cX8_findOffer 151 = .ok (.getfield 45, 3) := by decide +kernel
theorem dX8_findOffer_154 : decode cX8_findOffer 154 = .ok (.iload 5, 2) := by decide +kernel
theorem dX8_findOffer_156 : decode cX8_findOffer 156 = .ok (.iload_n 3, 1) := by decide +kernel
theorem dX8_findOffer_157 : decode cX8_findOffer 157 = .ok (.invokevirtual 334, 3) := by decide +kernel
theorem dX8_findOffer_160 : decode cX8_findOffer 160 = .ok (.ifCond .eq 67, 3) := by decide +kernel
theorem dX8_findOffer_163 : decode cX8_findOffer 163 = .ok (.aload_n 0, 1) := by decide +kernel
theorem dX8_findOffer_164 : decode cX8_findOffer 164 = .ok (.iload_n 2, 1) := by decide +kernel
theorem dX8_findOffer_165 : decode cX8_findOffer 165 = .ok (.iload 4, 2) := by decide +kernel
theorem dX8_findOffer_167 : decode cX8_findOffer 167 = .ok (.iconst 2, 1) := by decide +kernel
theorem dX8_findOffer_168 : decode cX8_findOffer 168 = .ok (.invokevirtual 144, 3) := by decide +kernel
theorem dX8_findOffer_171 : decode cX8_findOffer 171 = .ok (.ifCond .ne 56, 3) := by decide +kernel
theorem dX8_findOffer_174 : decode cX8_findOffer 174 = .ok (.aload_n 0, 1) := by decide +kernel
theorem dX8_findOffer_175 : decode cX8_findOffer 175 = .ok (.getfield 10, 3) := by decide +kernel
theorem dX8_findOffer_178 : decode cX8_findOffer 178 = .ok (.getfield 317, 3) := by decide +kernel
theorem dX8_findOffer_181 : decode cX8_findOffer 181 = .ok (.iload_n 2, 1) := by decide +kernel
theorem dX8_findOffer_182 : decode cX8_findOffer 182 = .ok (.aaload, 1) := by decide +kernel
theorem dX8_findOffer_183 : decode cX8_findOffer 183 = .ok (.iload 4, 2) := by decide +kernel
theorem dX8_findOffer_185 : decode cX8_findOffer 185 = .ok (.iconst 2, 1) := by decide +kernel
theorem dX8_findOffer_186 : decode cX8_findOffer 186 = .ok (.iastore, 1) := by decide +kernel
theorem dX8_findOffer_187 : decode cX8_findOffer 187 = .ok (.aload_n 0, 1) := by decide +kernel
theorem dX8_findOffer_188 : decode cX8_findOffer 188 = .ok (.iload_n 2, 1) := by decide +kernel
theorem dX8_findOffer_189 : decode cX8_findOffer 189 = .ok (.iload_n 1, 1) := by decide +kernel
theorem dX8_findOffer_190 : decode cX8_findOffer 190 = .ok (.iconst 1, 1) := by decide +kernel
theorem dX8_findOffer_191 : decode cX8_findOffer 191 = .ok (.invokevirtual 144, 3) := by decide +kernel
theorem dX8_findOffer_194 : decode cX8_findOffer 194 = .ok (.istore 6, 2) := by decide +kernel
theorem dX8_findOffer_196 : decode cX8_findOffer 196 = .ok (.aload_n 0, 1) := by decide +kernel
theorem dX8_findOffer_197 : decode cX8_findOffer 197 = .ok (.getfield 10, 3) := by decide +kernel
theorem dX8_findOffer_200 : decode cX8_findOffer 200 = .ok (.getfield 317, 3) := by decide +kernel
theorem dX8_findOffer_203 : decode cX8_findOffer 203 = .ok (.iload_n 2, 1) := by decide +kernel
theorem dX8_findOffer_204 : decode cX8_findOffer 204 = .ok (.aaload, 1) := by decide +kernel
theorem dX8_findOffer_205 : decode cX8_findOffer 205 = .ok (.iload 4, 2) := by decide +kernel
theorem dX8_findOffer_207 : decode cX8_findOffer 207 = .ok (.iconst 0, 1) := by decide +kernel
theorem dX8_findOffer_208 : decode cX8_findOffer 208 = .ok (.iastore, 1) := by decide +kernel
theorem dX8_findOffer_209 : decode cX8_findOffer 209 = .ok (.iload 6, 2) := by decide +kernel
theorem dX8_findOffer_211 : decode cX8_findOffer 211 = .ok (.ifCond .ne 16, 3) := by decide +kernel
theorem dX8_findOffer_214 : decode cX8_findOffer 214 = .ok (.aload_n 0, 1) := by decide +kernel
theorem dX8_findOffer_215 : decode cX8_findOffer 215 = .ok (.getfield 45, 3) := by decide +kernel
theorem dX8_findOffer_218 : decode cX8_findOffer 218 = .ok (.iload_n 2, 1) := by decide +kernel
theorem dX8_findOffer_219 : decode cX8_findOffer 219 = .ok (.iload 4, 2) := by decide +kernel
theorem dX8_findOffer_221 : decode cX8_findOffer 221 = .ok (.iload 5, 2) := by decide +kernel
theorem dX8_findOffer_223 : decode cX8_findOffer 223 = .ok (.iload_n 3, 1) := by decide +kernel
theorem dX8_findOffer_224 : decode cX8_findOffer 224 = .ok (.invokevirtual 337, 3) := by decide +kernel
theorem dX8_findOffer_227 : decode cX8_findOffer 227 = .ok (.iinc 4 1, 3) := by decide +kernel
theorem dX8_findOffer_230 : decode cX8_findOffer 230 = .ok (.goto (-136), 3) := by decide +kernel
theorem dX8_findOffer_233 : decode cX8_findOffer 233 = .ok (.iinc 2 1, 3) := by decide +kernel
theorem dX8_findOffer_236 : decode cX8_findOffer 236 = .ok (.goto (-213), 3) := by decide +kernel
theorem dX8_findOffer_239 : decode cX8_findOffer 239 = .ok (.return_, 1) := by decide +kernel
theorem dX8_repairRows_0 : decode cX8_repairRows 0 = .ok (.aload_n 0, 1) := by decide +kernel
theorem dX8_repairRows_1 : decode cX8_repairRows 1 = .ok (.getfield 52, 3) := by decide +kernel
theorem dX8_repairRows_4 : decode cX8_repairRows 4 = .ok (.iconst 0, 1) := by decide +kernel
theorem dX8_repairRows_5 : decode cX8_repairRows 5 = .ok (.putfield 250, 3) := by decide +kernel
theorem dX8_repairRows_8 : decode cX8_repairRows 8 = .ok (.iconst 0, 1) := by decide +kernel
theorem dX8_repairRows_9 : decode cX8_repairRows 9 = .ok (.istore_n 1, 1) := by decide +kernel
theorem dX8_repairRows_10 : decode cX8_repairRows 10 = .ok (.iload_n 1, 1) := by decide +kernel
theorem dX8_repairRows_11 : decode cX8_repairRows 11 = .ok (.aload_n 0, 1) := by decide +kernel
theorem dX8_repairRows_12 : decode cX8_repairRows 12 = .ok (.getfield 10, 3) := by decide +kernel
theorem dX8_repairRows_15 : decode cX8_repairRows 15 = .ok (.getfield 97, 3) := by decide +kernel
theorem dX8_repairRows_18 : decode cX8_repairRows 18 = .ok (.if_icmp .ge 14, 3) := by decide +kernel
theorem dX8_repairRows_21 : decode cX8_repairRows 21 = .ok (.aload_n 0, 1) := by decide +kernel
theorem dX8_repairRows_22 : decode cX8_repairRows 22 = .ok (.iload_n 1, 1) := by decide +kernel
theorem dX8_repairRows_23 : decode cX8_repairRows 23 = .ok (.invokevirtual 344, 3) := by decide +kernel
theorem dX8_repairRows_26 : decode cX8_repairRows 26 = .ok (.iinc 1 1, 3) := by decide +kernel
theorem dX8_repairRows_29 : decode cX8_repairRows 29 = .ok (.goto (-19), 3) := by decide +kernel
theorem dX8_repairRows_32 : decode cX8_repairRows 32 = .ok (.iconst 0, 1) := by decide +kernel
theorem dX8_repairRows_33 : decode cX8_repairRows 33 = .ok (.istore_n 1, 1) := by decide +kernel
theorem dX8_repairRows_34 : decode cX8_repairRows 34 = .ok (.iload_n 1, 1) := by decide +kernel
theorem dX8_repairRows_35 : decode cX8_repairRows 35 = .ok (.aload_n 0, 1) := by decide +kernel
theorem dX8_repairRows_36 : decode cX8_repairRows 36 = .ok (.getfield 10, 3) := by decide +kernel
theorem dX8_repairRows_39 : decode cX8_repairRows 39 = .ok (.getfield 93, 3) := by decide +kernel
theorem dX8_repairRows_42 : decode cX8_repairRows 42 = .ok (.if_icmp .ge 72, 3) := by decide +kernel
theorem dX8_repairRows_45 : decode cX8_repairRows 45 = .ok (.aload_n 0, 1) := by decide +kernel
theorem dX8_repairRows_46 : decode cX8_repairRows 46 = .ok (.getfield 10, 3) := by decide +kernel
theorem dX8_repairRows_49 : decode cX8_repairRows 49 = .ok (.getfield 208, 3) := by decide +kernel
theorem dX8_repairRows_52 : decode cX8_repairRows 52 = .ok (.iload_n 1, 1) := by decide +kernel
theorem dX8_repairRows_53 : decode cX8_repairRows 53 = .ok (.iaload, 1) := by decide +kernel
theorem dX8_repairRows_54 : decode cX8_repairRows 54 = .ok (.istore_n 2, 1) := by decide +kernel
theorem dX8_repairRows_55 : decode cX8_repairRows 55 = .ok (.aload_n 0, 1) := by decide +kernel
theorem dX8_repairRows_56 : decode cX8_repairRows 56 = .ok (.getfield 52, 3) := by decide +kernel
theorem dX8_repairRows_59 : decode cX8_repairRows 59 = .ok (.iload_n 2, 1) := by decide +kernel
theorem dX8_repairRows_60 : decode cX8_repairRows 60 = .ok (.invokevirtual 347, 3) := by decide +kernel
theorem dX8_repairRows_63 : decode cX8_repairRows 63 = .ok (.istore_n 3, 1) := by decide +kernel
theorem dX8_repairRows_64 : decode cX8_repairRows 64 = .ok (.iload_n 3, 1) := by decide +kernel
theorem dX8_repairRows_65 : decode cX8_repairRows 65 = .ok (.bipush (-2), 2) := by decide +kernel
theorem dX8_repairRows_67 : decode cX8_repairRows 67 = .ok (.if_icmp .eq 41, 3) := by decide +kernel
theorem dX8_repairRows_70 : decode cX8_repairRows 70 = .ok (.aload_n 0, 1) := by decide +kernel
theorem dX8_repairRows_71 : decode cX8_repairRows 71 = .ok (.iload_n 2, 1) := by decide +kernel
theorem dX8_repairRows_72 : decode cX8_repairRows 72 = .ok (.invokevirtual 229, 3) := by decide +kernel
theorem dX8_repairRows_75 : decode cX8_repairRows 75 = .ok (.istore 4, 2) := by decide +kernel
theorem dX8_repairRows_77 : decode cX8_repairRows 77 = .ok (.aload_n 0, 1) := by decide +kernel
theorem dX8_repairRows_78 : decode cX8_repairRows 78 = .ok (.getfield 52, 3) := by decide +kernel
theorem dX8_repairRows_81 : decode cX8_repairRows 81 = .ok (.getfield 256, 3) := by decide +kernel
theorem dX8_repairRows_84 : decode cX8_repairRows 84 = .ok (.iload_n 3, 1) := by decide +kernel
theorem dX8_repairRows_85 : decode cX8_repairRows 85 = .ok (.iload 4, 2) := by decide +kernel
theorem dX8_repairRows_87 : decode cX8_repairRows 87 = .ok (.iastore, 1) := by decide +kernel
theorem dX8_repairRows_88 : decode cX8_repairRows 88 = .ok (.iload 4, 2) := by decide +kernel
theorem dX8_repairRows_90 : decode cX8_repairRows 90 = .ok (.bipush (-2), 2) := by decide +kernel
theorem dX8_repairRows_92 : decode cX8_repairRows 92 = .ok (.if_icmp .eq 16, 3) := by decide +kernel
theorem dX8_repairRows_95 : decode cX8_repairRows 95 = .ok (.aload_n 0, 1) := by decide +kernel
theorem dX8_repairRows_96 : decode cX8_repairRows 96 = .ok (.getfield 10, 3) := by decide +kernel
theorem dX8_repairRows_99 : decode cX8_repairRows 99 = .ok (.getfield 317, 3) := by decide +kernel
theorem dX8_repairRows_102 : decode cX8_repairRows 102 = .ok (.iload 4, 2) := by decide +kernel
theorem dX8_repairRows_104 : decode cX8_repairRows 104 = .ok (.aaload, 1) := by decide +kernel
theorem dX8_repairRows_105 : decode cX8_repairRows 105 = .ok (.iload_n 2, 1) := by decide +kernel
theorem dX8_repairRows_106 : decode cX8_repairRows 106 = .ok (.iconst 1, 1) := by decide +kernel
theorem dX8_repairRows_107 : decode cX8_repairRows 107 = .ok (.iastore, 1) := by decide +kernel
theorem dX8_repairRows_108 : decode cX8_repairRows 108 = .ok (.iinc 1 1, 3) := by decide +kernel
theorem dX8_repairRows_111 : decode cX8_repairRows 111 = .ok (.goto (-77), 3) := by decide +kernel
theorem dX8_repairRows_114 : decode cX8_repairRows 114 = .ok (.aload_n 0, 1) := by decide +kernel
theorem dX8_repairRows_115 : decode cX8_repairRows 115 = .ok (.getfield 52, 3) := by decide +kernel
theorem dX8_repairRows_118 : decode cX8_repairRows 118 = .ok (.getfield 250, 3) := by decide +kernel
theorem dX8_repairRows_121 : decode cX8_repairRows 121 = .ok (.ireturn, 1) := by decide +kernel
theorem dX8_clearViolations_0 : decode cX8_clearViolations 0 = .ok (.iconst 0, 1) := by decide +kernel
theorem dX8_clearViolations_1 : decode cX8_clearViolations 1 = .ok (.istore_n 2, 1) := by decide +kernel
theorem dX8_clearViolations_2 : decode cX8_clearViolations 2 = .ok (.iload_n 2, 1) := by decide +kernel
theorem dX8_clearViolations_3 : decode cX8_clearViolations 3 = .ok (.bipush 24, 2) := by decide +kernel
theorem dX8_clearViolations_5 : decode cX8_clearViolations 5 = .ok (.if_icmp .ge 82, 3) := by decide +kernel
theorem dX8_clearViolations_8 : decode cX8_clearViolations 8 = .ok (.aload_n 0, 1) := by decide +kernel
theorem dX8_clearViolations_9 : decode cX8_clearViolations 9 = .ok (.getfield 38, 3) := by decide +kernel
theorem dX8_clearViolations_12 : decode cX8_clearViolations 12 = .ok (.iload_n 1, 1) := by decide +kernel
theorem dX8_clearViolations_13 : decode cX8_clearViolations 13 = .ok (.invokevirtual 150, 3) := by decide +kernel
theorem dX8_clearViolations_16 : decode cX8_clearViolations 16 = .ok (.aload_n 0, 1) := by decide +kernel
theorem dX8_clearViolations_17 : decode cX8_clearViolations 17 = .ok (.getfield 38, 3) := by decide +kernel
theorem dX8_clearViolations_20 : decode cX8_clearViolations 20 = .ok (.iconst 1, 1) := by decide +kernel
theorem dX8_clearViolations_21 : decode cX8_clearViolations 21 = .ok (.invokevirtual 182, 3) := by decide +kernel
theorem dX8_clearViolations_24 : decode cX8_clearViolations 24 = .ok (.ifCond .ne 4, 3) := by decide +kernel
theorem dX8_clearViolations_27 : decode cX8_clearViolations 27 = .ok (.return_, 1) := by decide +kernel
theorem dX8_clearViolations_28 : decode cX8_clearViolations 28 = .ok (.aload_n 0, 1) := by decide +kernel
theorem dX8_clearViolations_29 : decode cX8_clearViolations 29 = .ok (.getfield 38, 3) := by decide +kernel
theorem dX8_clearViolations_32 : decode cX8_clearViolations 32 = .ok (.getfield 147, 3) := by decide +kernel
theorem dX8_clearViolations_35 : decode cX8_clearViolations 35 = .ok (.iconst 0, 1) := by decide +kernel
theorem dX8_clearViolations_36 : decode cX8_clearViolations 36 = .ok (.iaload, 1) := by decide +kernel
theorem dX8_clearViolations_37 : decode cX8_clearViolations 37 = .ok (.istore_n 3, 1) := by decide +kernel
theorem dX8_clearViolations_38 : decode cX8_clearViolations 38 = .ok (.aload_n 0, 1) := by decide +kernel
theorem dX8_clearViolations_39 : decode cX8_clearViolations 39 = .ok (.getfield 38, 3) := by decide +kernel
theorem dX8_clearViolations_42 : decode cX8_clearViolations 42 = .ok (.getfield 157, 3) := by decide +kernel
theorem dX8_clearViolations_45 : decode cX8_clearViolations 45 = .ok (.iload_n 3, 1) := by decide +kernel
theorem dX8_clearViolations_46 : decode cX8_clearViolations 46 = .ok (.iaload, 1) := by decide +kernel
theorem dX8_clearViolations_47 : decode cX8_clearViolations 47 = .ok (.istore 4, 2) := by decide +kernel
theorem dX8_clearViolations_49 : decode cX8_clearViolations 49 = .ok (.aload_n 0, 1) := by decide +kernel
theorem dX8_clearViolations_50 : decode cX8_clearViolations 50 = .ok (.getfield 52, 3) := by decide +kernel
theorem dX8_clearViolations_53 : decode cX8_clearViolations 53 = .ok (.iload_n 1, 1) := by decide +kernel
theorem dX8_clearViolations_54 : decode cX8_clearViolations 54 = .ok (.iload 4, 2) := by decide +kernel
theorem dX8_clearViolations_56 : decode cX8_clearViolations 56 = .ok (.aload_n 0, 1) := by decide +kernel
theorem dX8_clearViolations_57 : decode cX8_clearViolations 57 = .ok (.getfield 38, 3) := by decide +kernel
theorem dX8_clearViolations_60 : decode cX8_clearViolations 60 = .ok (.getfield 160, 3) := by decide +kernel
theorem dX8_clearViolations_63 : decode cX8_clearViolations 63 = .ok (.iload_n 3, 1) := by decide +kernel
theorem dX8_clearViolations_64 : decode cX8_clearViolations 64 = .ok (.baload, 1) := by decide +kernel
theorem dX8_clearViolations_65 : decode cX8_clearViolations 65 = .ok (.invokevirtual 350, 3) := by decide +kernel
theorem dX8_clearViolations_68 : decode cX8_clearViolations 68 = .ok (.aload_n 0, 1) := by decide +kernel
theorem dX8_clearViolations_69 : decode cX8_clearViolations 69 = .ok (.getfield 10, 3) := by decide +kernel
theorem dX8_clearViolations_72 : decode cX8_clearViolations 72 = .ok (.getfield 317, 3) := by decide +kernel
theorem dX8_clearViolations_75 : decode cX8_clearViolations 75 = .ok (.iload_n 1, 1) := by decide +kernel
theorem dX8_clearViolations_76 : decode cX8_clearViolations 76 = .ok (.aaload, 1) := by decide +kernel
theorem dX8_clearViolations_77 : decode cX8_clearViolations 77 = .ok (.iload 4, 2) := by decide +kernel
theorem dX8_clearViolations_79 : decode cX8_clearViolations 79 = .ok (.iconst 0, 1) := by decide +kernel
theorem dX8_clearViolations_80 : decode cX8_clearViolations 80 = .ok (.iastore, 1) := by decide +kernel
theorem dX8_clearViolations_81 : decode cX8_clearViolations 81 = .ok (.iinc 2 1, 3) := by decide +kernel
theorem dX8_clearViolations_84 : decode cX8_clearViolations 84 = .ok (.goto (-82), 3) := by decide +kernel
theorem dX8_clearViolations_87 : decode cX8_clearViolations 87 = .ok (.return_, 1) := by decide +kernel
theorem dX8_takePairing_0 : decode cX8_takePairing 0 = .ok (.aload_n 0, 1) := by decide +kernel
theorem dX8_takePairing_1 : decode cX8_takePairing 1 = .ok (.getfield 10, 3) := by decide +kernel
theorem dX8_takePairing_4 : decode cX8_takePairing 4 = .ok (.iload_n 1, 1) := by decide +kernel
theorem dX8_takePairing_5 : decode cX8_takePairing 5 = .ok (.invokevirtual 141, 3) := by decide +kernel
theorem dX8_takePairing_8 : decode cX8_takePairing 8 = .ok (.ifCond .ne 5, 3) := by decide +kernel
theorem dX8_takePairing_11 : decode cX8_takePairing 11 = .ok (.iconst (-1), 1) := by decide +kernel
theorem dX8_takePairing_12 : decode cX8_takePairing 12 = .ok (.ireturn, 1) := by decide +kernel
theorem dX8_takePairing_13 : decode cX8_takePairing 13 = .ok (.aload_n 0, 1) := by decide +kernel
theorem dX8_takePairing_14 : decode cX8_takePairing 14 = .ok (.getfield 61, 3) := by decide +kernel
theorem dX8_takePairing_17 : decode cX8_takePairing 17 = .ok (.iload_n 1, 1) := by decide +kernel
theorem dX8_takePairing_18 : decode cX8_takePairing 18 = .ok (.invokevirtual 259, 3) := by decide +kernel
theorem dX8_takePairing_21 : decode cX8_takePairing 21 = .ok (.aload_n 0, 1) := by decide +kernel
theorem dX8_takePairing_22 : decode cX8_takePairing 22 = .ok (.getfield 61, 3) := by decide +kernel
theorem dX8_takePairing_25 : decode cX8_takePairing 25 = .ok (.getfield 262, 3) := by decide +kernel
theorem dX8_takePairing_28 : decode cX8_takePairing 28 = .ok (.ifCond .ne 6, 3) := by decide +kernel
theorem dX8_takePairing_31 : decode cX8_takePairing 31 = .ok (.bipush (-2), 2) := by decide +kernel
theorem dX8_takePairing_33 : decode cX8_takePairing 33 = .ok (.ireturn, 1) := by decide +kernel
theorem dX8_takePairing_34 : decode cX8_takePairing 34 = .ok (.iconst 0, 1) := by decide +kernel
theorem dX8_takePairing_35 : decode cX8_takePairing 35 = .ok (.istore_n 2, 1) := by decide +kernel
theorem dX8_takePairing_36 : decode cX8_takePairing 36 = .ok (.iload_n 2, 1) := by decide +kernel
theorem dX8_takePairing_37 : decode cX8_takePairing 37 = .ok (.aload_n 0, 1) := by decide +kernel
theorem dX8_takePairing_38 : decode cX8_takePairing 38 = .ok (.getfield 61, 3) := by decide +kernel
theorem dX8_takePairing_41 : decode cX8_takePairing 41 = .ok (.getfield 262, 3) := by decide +kernel
theorem dX8_takePairing_44 : decode cX8_takePairing 44 = .ok (.if_icmp .ge 29, 3) := by decide +kernel
theorem dX8_takePairing_47 : decode cX8_takePairing 47 = .ok (.aload_n 0, 1) := by decide +kernel
theorem dX8_takePairing_48 : decode cX8_takePairing 48 = .ok (.getfield 10, 3) := by decide +kernel
theorem dX8_takePairing_51 : decode cX8_takePairing 51 = .ok (.getfield 317, 3) := by decide +kernel
theorem dX8_takePairing_54 : decode cX8_takePairing 54 = .ok (.iload_n 1, 1) := by decide +kernel
theorem dX8_takePairing_55 : decode cX8_takePairing 55 = .ok (.aaload, 1) := by decide +kernel
theorem dX8_takePairing_56 : decode cX8_takePairing 56 = .ok (.aload_n 0, 1) := by decide +kernel
theorem dX8_takePairing_57 : decode cX8_takePairing 57 = .ok (.getfield 61, 3) := by decide +kernel
theorem dX8_takePairing_60 : decode cX8_takePairing 60 = .ok (.getfield 268, 3) := by decide +kernel
theorem dX8_takePairing_63 : decode cX8_takePairing 63 = .ok (.iload_n 2, 1) := by decide +kernel
theorem dX8_takePairing_64 : decode cX8_takePairing 64 = .ok (.iaload, 1) := by decide +kernel
theorem dX8_takePairing_65 : decode cX8_takePairing 65 = .ok (.iconst 1, 1) := by decide +kernel
theorem dX8_takePairing_66 : decode cX8_takePairing 66 = .ok (.iastore, 1) := by decide +kernel
theorem dX8_takePairing_67 : decode cX8_takePairing 67 = .ok (.iinc 2 1, 3) := by decide +kernel
theorem dX8_takePairing_70 : decode cX8_takePairing 70 = .ok (.goto (-34), 3) := by decide +kernel
theorem dX8_takePairing_73 : decode cX8_takePairing 73 = .ok (.aload_n 0, 1) := by decide +kernel
theorem dX8_takePairing_74 : decode cX8_takePairing 74 = .ok (.getfield 61, 3) := by decide +kernel
theorem dX8_takePairing_77 : decode cX8_takePairing 77 = .ok (.getfield 262, 3) := by decide +kernel
theorem dX8_takePairing_80 : decode cX8_takePairing 80 = .ok (.ireturn, 1) := by decide +kernel
theorem dX8_runCommand_0 : decode cX8_runCommand 0 = .ok (.iload_n 1, 1) := by decide +kernel
theorem dX8_runCommand_1 : decode cX8_runCommand 1 = .ok (.iconst 4, 1) := by decide +kernel
theorem dX8_runCommand_2 : decode cX8_runCommand 2 = .ok (.imul, 1) := by decide +kernel
theorem dX8_runCommand_3 : decode cX8_runCommand 3 = .ok (.istore_n 2, 1) := by decide +kernel
theorem dX8_runCommand_4 : decode cX8_runCommand 4 = .ok (.aload_n 0, 1) := by decide +kernel
theorem dX8_runCommand_5 : decode cX8_runCommand 5 = .ok (.getfield 75, 3) := by decide +kernel
theorem dX8_runCommand_8 : decode cX8_runCommand 8 = .ok (.getfield 354, 3) := by decide +kernel
theorem dX8_runCommand_11 : decode cX8_runCommand 11 = .ok (.iload_n 2, 1) := by decide +kernel
theorem dX8_runCommand_12 : decode cX8_runCommand 12 = .ok (.iaload, 1) := by decide +kernel
theorem dX8_runCommand_13 : decode cX8_runCommand 13 = .ok (.istore_n 3, 1) := by decide +kernel
theorem dX8_runCommand_14 : decode cX8_runCommand 14 = .ok (.aload_n 0, 1) := by decide +kernel
theorem dX8_runCommand_15 : decode cX8_runCommand 15 = .ok (.getfield 75, 3) := by decide +kernel
theorem dX8_runCommand_18 : decode cX8_runCommand 18 = .ok (.getfield 354, 3) := by decide +kernel
theorem dX8_runCommand_21 : decode cX8_runCommand 21 = .ok (.iload_n 2, 1) := by decide +kernel
theorem dX8_runCommand_22 : decode cX8_runCommand 22 = .ok (.iconst 1, 1) := by decide +kernel
theorem dX8_runCommand_23 : decode cX8_runCommand 23 = .ok (.iadd, 1) := by decide +kernel
theorem dX8_runCommand_24 : decode cX8_runCommand 24 = .ok (.iaload, 1) := by decide +kernel
theorem dX8_runCommand_25 : decode cX8_runCommand 25 = .ok (.istore 4, 2) := by decide +kernel
theorem dX8_runCommand_27 : decode cX8_runCommand 27 = .ok (.aload_n 0, 1) := by decide +kernel
theorem dX8_runCommand_28 : decode cX8_runCommand 28 = .ok (.getfield 75, 3) := by decide +kernel
theorem dX8_runCommand_31 : decode cX8_runCommand 31 = .ok (.getfield 357, 3) := by decide +kernel
theorem dX8_runCommand_34 : decode cX8_runCommand 34 = .ok (.iload_n 1, 1) := by decide +kernel
theorem dX8_runCommand_35 : decode cX8_runCommand 35 = .ok (.iaload, 1) := by decide +kernel
theorem dX8_runCommand_36 : decode cX8_runCommand 36 = .ok (.tableswitch 150 0 9 #[56, 86, 92, 101, 110, 118, 126, 132, 140, 145], 56) := by decide +kernel
theorem dX8_runCommand_92 : decode cX8_runCommand 92 = .ok (.aload_n 0, 1) := by decide +kernel
theorem dX8_runCommand_93 : decode cX8_runCommand 93 = .ok (.iload_n 3, 1) := by decide +kernel
theorem dX8_runCommand_94 : decode cX8_runCommand 94 = .ok (.iload 4, 2) := by decide +kernel
theorem dX8_runCommand_96 : decode cX8_runCommand 96 = .ok (.aload_n 0, 1) := by decide +kernel
theorem dX8_runCommand_97 : decode cX8_runCommand 97 = .ok (.getfield 75, 3) := by decide +kernel
theorem dX8_runCommand_100 : decode cX8_runCommand 100 = .ok (.getfield 354, 3) := by decide +kernel
theorem dX8_runCommand_103 : decode cX8_runCommand 103 = .ok (.iload_n 2, 1) := by decide +kernel
theorem dX8_runCommand_104 : decode cX8_runCommand 104 = .ok (.iconst 2, 1) := by decide +kernel
theorem dX8_runCommand_105 : decode cX8_runCommand 105 = .ok (.iadd, 1) := by decide +kernel
theorem dX8_runCommand_106 : decode cX8_runCommand 106 = .ok (.iaload, 1) := by decide +kernel
theorem dX8_runCommand_107 : decode cX8_runCommand 107 = .ok (.aload_n 0, 1) := by decide +kernel
theorem dX8_runCommand_108 : decode cX8_runCommand 108 = .ok (.getfield 75, 3) := by decide +kernel
theorem dX8_runCommand_111 : decode cX8_runCommand 111 = .ok (.getfield 354, 3) := by decide +kernel
theorem dX8_runCommand_114 : decode cX8_runCommand 114 = .ok (.iload_n 2, 1) := by decide +kernel
theorem dX8_runCommand_115 : decode cX8_runCommand 115 = .ok (.iconst 3, 1) := by decide +kernel
theorem dX8_runCommand_116 : decode cX8_runCommand 116 = .ok (.iadd, 1) := by decide +kernel
theorem dX8_runCommand_117 : decode cX8_runCommand 117 = .ok (.iaload, 1) := by decide +kernel
theorem dX8_runCommand_118 : decode cX8_runCommand 118 = .ok (.invokevirtual 82, 3) := by decide +kernel
theorem dX8_runCommand_121 : decode cX8_runCommand 121 = .ok (.ireturn, 1) := by decide +kernel
theorem dX8_runCommand_122 : decode cX8_runCommand 122 = .ok (.aload_n 0, 1) := by decide +kernel
theorem dX8_runCommand_123 : decode cX8_runCommand 123 = .ok (.iload_n 3, 1) := by decide +kernel
theorem dX8_runCommand_124 : decode cX8_runCommand 124 = .ok (.invokevirtual 90, 3) := by decide +kernel
theorem dX8_runCommand_127 : decode cX8_runCommand 127 = .ok (.ireturn, 1) := by decide +kernel
theorem dX8_runCommand_128 : decode cX8_runCommand 128 = .ok (.aload_n 0, 1) := by decide +kernel
theorem dX8_runCommand_129 : decode cX8_runCommand 129 = .ok (.iload_n 3, 1) := by decide +kernel
theorem dX8_runCommand_130 : decode cX8_runCommand 130 = .ok (.iload 4, 2) := by decide +kernel
theorem dX8_runCommand_132 : decode cX8_runCommand 132 = .ok (.iconst 1, 1) := by decide +kernel
theorem dX8_runCommand_133 : decode cX8_runCommand 133 = .ok (.invokevirtual 134, 3) := by decide +kernel
theorem dX8_runCommand_136 : decode cX8_runCommand 136 = .ok (.ireturn, 1) := by decide +kernel
theorem dX8_runCommand_137 : decode cX8_runCommand 137 = .ok (.aload_n 0, 1) := by decide +kernel
theorem dX8_runCommand_138 : decode cX8_runCommand 138 = .ok (.iload_n 3, 1) := by decide +kernel
theorem dX8_runCommand_139 : decode cX8_runCommand 139 = .ok (.iload 4, 2) := by decide +kernel
theorem dX8_runCommand_141 : decode cX8_runCommand 141 = .ok (.iconst 2, 1) := by decide +kernel
theorem dX8_runCommand_142 : decode cX8_runCommand 142 = .ok (.invokevirtual 134, 3) := by decide +kernel
theorem dX8_runCommand_145 : decode cX8_runCommand 145 = .ok (.ireturn, 1) := by decide +kernel
theorem dX8_runCommand_146 : decode cX8_runCommand 146 = .ok (.aload_n 0, 1) := by decide +kernel
theorem dX8_runCommand_147 : decode cX8_runCommand 147 = .ok (.iload_n 3, 1) := by decide +kernel
theorem dX8_runCommand_148 : decode cX8_runCommand 148 = .ok (.iload 4, 2) := by decide +kernel
theorem dX8_runCommand_150 : decode cX8_runCommand 150 = .ok (.invokevirtual 138, 3) := by decide +kernel
theorem dX8_runCommand_153 : decode cX8_runCommand 153 = .ok (.ireturn, 1) := by decide +kernel
theorem dX8_runCommand_154 : decode cX8_runCommand 154 = .ok (.aload_n 0, 1) := by decide +kernel
theorem dX8_runCommand_155 : decode cX8_runCommand 155 = .ok (.iload_n 3, 1) := by decide +kernel
theorem dX8_runCommand_156 : decode cX8_runCommand 156 = .ok (.iload 4, 2) := by decide +kernel
theorem dX8_runCommand_158 : decode cX8_runCommand 158 = .ok (.invokevirtual 211, 3) := by decide +kernel
theorem dX8_runCommand_161 : decode cX8_runCommand 161 = .ok (.ireturn, 1) := by decide +kernel
theorem dX8_runCommand_162 : decode cX8_runCommand 162 = .ok (.aload_n 0, 1) := by decide +kernel
theorem dX8_runCommand_163 : decode cX8_runCommand 163 = .ok (.iload_n 3, 1) := by decide +kernel
theorem dX8_runCommand_164 : decode cX8_runCommand 164 = .ok (.invokevirtual 214, 3) := by decide +kernel
theorem dX8_runCommand_167 : decode cX8_runCommand 167 = .ok (.ireturn, 1) := by decide +kernel
theorem dX8_runCommand_168 : decode cX8_runCommand 168 = .ok (.aload_n 0, 1) := by decide +kernel
theorem dX8_runCommand_169 : decode cX8_runCommand 169 = .ok (.iload_n 3, 1) := by decide +kernel
theorem dX8_runCommand_170 : decode cX8_runCommand 170 = .ok (.iload 4, 2) := by decide +kernel
theorem dX8_runCommand_172 : decode cX8_runCommand 172 = .ok (.invokevirtual 123, 3) := by decide +kernel
theorem dX8_runCommand_175 : decode cX8_runCommand 175 = .ok (.ireturn, 1) := by decide +kernel
theorem dX8_runCommand_176 : decode cX8_runCommand 176 = .ok (.aload_n 0, 1) := by decide +kernel
theorem dX8_runCommand_177 : decode cX8_runCommand 177 = .ok (.invokevirtual 232, 3) := by decide +kernel
theorem dX8_runCommand_180 : decode cX8_runCommand 180 = .ok (.ireturn, 1) := by decide +kernel
theorem dX8_runCommand_181 : decode cX8_runCommand 181 = .ok (.aload_n 0, 1) := by decide +kernel
theorem dX8_runCommand_182 : decode cX8_runCommand 182 = .ok (.invokevirtual 247, 3) := by decide +kernel
theorem dX8_runCommand_185 : decode cX8_runCommand 185 = .ok (.ireturn, 1) := by decide +kernel
theorem dX8_runCommand_186 : decode cX8_runCommand 186 = .ok (.iconst (-1), 1) := by decide +kernel
theorem dX8_runCommand_187 : decode cX8_runCommand 187 = .ok (.ireturn, 1) := by decide +kernel
