theorem dX9_init_0 : decode cX9_init 0 = .ok (.aload_n 0, 1) := by decide +kernel
theorem dX9_init_1 : decode cX9_init 1 = .ok (.invokespecial 3, 3) := by decide +kernel
theorem dX9_init_4 : decode cX9_init 4 = .ok (.aload_n 0, 1) := by decide +kernel
theorem dX9_init_5 : decode cX9_init 5 = .ok (.sipush 298, 3) := by decide +kernel
theorem dX9_init_8 : decode cX9_init 8 = .ok (.newarray .int, 2) := by decide +kernel
theorem dX9_init_10 : decode cX9_init 10 = .ok (.putfield 9, 3) := by decide +kernel
theorem dX9_init_13 : decode cX9_init 13 = .ok (.aload_n 0, 1) := by decide +kernel
theorem dX9_init_14 : decode cX9_init 14 = .ok (.sipush 298, 3) := by decide +kernel
theorem dX9_init_17 : decode cX9_init 17 = .ok (.newarray .int, 2) := by decide +kernel
theorem dX9_init_19 : decode cX9_init 19 = .ok (.putfield 13, 3) := by decide +kernel
theorem dX9_init_22 : decode cX9_init 22 = .ok (.aload_n 0, 1) := by decide +kernel
theorem dX9_init_23 : decode cX9_init 23 = .ok (.sipush 2384, 3) := by decide +kernel
theorem dX9_init_26 : decode cX9_init 26 = .ok (.newarray .int, 2) := by decide +kernel
theorem dX9_init_28 : decode cX9_init 28 = .ok (.putfield 16, 3) := by decide +kernel
theorem dX9_init_31 : decode cX9_init 31 = .ok (.aload_n 0, 1) := by decide +kernel
theorem dX9_init_32 : decode cX9_init 32 = .ok (.sipush 298, 3) := by decide +kernel
theorem dX9_init_35 : decode cX9_init 35 = .ok (.newarray .int, 2) := by decide +kernel
theorem dX9_init_37 : decode cX9_init 37 = .ok (.putfield 19, 3) := by decide +kernel
theorem dX9_init_40 : decode cX9_init 40 = .ok (.aload_n 0, 1) := by decide +kernel
theorem dX9_init_41 : decode cX9_init 41 = .ok (.bipush 48, 2) := by decide +kernel
theorem dX9_init_43 : decode cX9_init 43 = .ok (.newarray .int, 2) := by decide +kernel
theorem dX9_init_45 : decode cX9_init 45 = .ok (.putfield 22, 3) := by decide +kernel
theorem dX9_init_48 : decode cX9_init 48 = .ok (.aload_n 0, 1) := by decide +kernel
theorem dX9_init_49 : decode cX9_init 49 = .ok (.bipush 25, 2) := by decide +kernel
theorem dX9_init_51 : decode cX9_init 51 = .ok (.newarray .int, 2) := by decide +kernel
theorem dX9_init_53 : decode cX9_init 53 = .ok (.putfield 25, 3) := by decide +kernel
theorem dX9_init_56 : decode cX9_init 56 = .ok (.aload_n 0, 1) := by decide +kernel
theorem dX9_init_57 : decode cX9_init 57 = .ok (.bipush 25, 2) := by decide +kernel
theorem dX9_init_59 : decode cX9_init 59 = .ok (.newarray .int, 2) := by decide +kernel
theorem dX9_init_61 : decode cX9_init 61 = .ok (.putfield 28, 3) := by decide +kernel
theorem dX9_init_64 : decode cX9_init 64 = .ok (.aload_n 0, 1) := by decide +kernel
theorem dX9_init_65 : decode cX9_init 65 = .ok (.sipush 576, 3) := by decide +kernel
theorem dX9_init_68 : decode cX9_init 68 = .ok (.newarray .int, 2) := by decide +kernel
theorem dX9_init_70 : decode cX9_init 70 = .ok (.putfield 31, 3) := by decide +kernel
theorem dX9_init_73 : decode cX9_init 73 = .ok (.aload_n 0, 1) := by decide +kernel
theorem dX9_init_74 : decode cX9_init 74 = .ok (.bipush 6, 2) := by decide +kernel
theorem dX9_init_76 : decode cX9_init 76 = .ok (.newarray .int, 2) := by decide +kernel
theorem dX9_init_78 : decode cX9_init 78 = .ok (.putfield 34, 3) := by decide +kernel
theorem dX9_init_81 : decode cX9_init 81 = .ok (.aload_n 0, 1) := by decide +kernel
theorem dX9_init_82 : decode cX9_init 82 = .ok (.bipush 6, 2) := by decide +kernel
theorem dX9_init_84 : decode cX9_init 84 = .ok (.newarray .int, 2) := by decide +kernel
theorem dX9_init_86 : decode cX9_init 86 = .ok (.putfield 37, 3) := by decide +kernel
theorem dX9_init_89 : decode cX9_init 89 = .ok (.aload_n 0, 1) := by decide +kernel
theorem dX9_init_90 : decode cX9_init 90 = .ok (.sipush 768, 3) := by decide +kernel
theorem dX9_init_93 : decode cX9_init 93 = .ok (.newarray .char, 2) := by decide +kernel
theorem dX9_init_95 : decode cX9_init 95 = .ok (.putfield 40, 3) := by decide +kernel
theorem dX9_init_98 : decode cX9_init 98 = .ok (.aload_n 0, 1) := by decide +kernel
theorem dX9_init_99 : decode cX9_init 99 = .ok (.bipush 60, 2) := by decide +kernel
theorem dX9_init_101 : decode cX9_init 101 = .ok (.newarray .char, 2) := by decide +kernel
theorem dX9_init_103 : decode cX9_init 103 = .ok (.putfield 44, 3) := by decide +kernel
theorem dX9_init_106 : decode cX9_init 106 = .ok (.aload_n 0, 1) := by decide +kernel
theorem dX9_init_107 : decode cX9_init 107 = .ok (.iconst 4, 1) := by decide +kernel
theorem dX9_init_108 : decode cX9_init 108 = .ok (.newarray .int, 2) := by decide +kernel
theorem dX9_init_110 : decode cX9_init 110 = .ok (.putfield 47, 3) := by decide +kernel
theorem dX9_init_113 : decode cX9_init 113 = .ok (.getstatic 50, 3) := by decide +kernel
theorem dX9_init_116 : decode cX9_init 116 = .ok (.iconst 0, 1) := by decide +kernel
theorem dX9_init_117 : decode cX9_init 117 = .ok (.aload_n 0, 1) := by decide +kernel
theorem dX9_init_118 : decode cX9_init 118 = .ok (.getfield 9, 3) := by decide +kernel
theorem dX9_init_121 : decode cX9_init 121 = .ok (.iconst 2, 1) := by decide +kernel
theorem dX9_init_122 : decode cX9_init 122 = .ok (.bipush 8, 2) := by decide +kernel
theorem dX9_init_124 : decode cX9_init 124 = .ok (.invokestatic 53, 3) := by decide +kernel
theorem dX9_init_127 : decode cX9_init 127 = .ok (.return_, 1) := by decide +kernel
theorem dX9_in_0 : decode cX9_in 0 = .ok (.iload_n 0, 1) := by decide +kernel
theorem dX9_in_1 : decode cX9_in 1 = .ok (.iload_n 1, 1) := by decide +kernel
theorem dX9_in_2 : decode cX9_in 2 = .ok (.if_icmp .lt 12, 3) := by decide +kernel
theorem dX9_in_5 : decode cX9_in 5 = .ok (.iload_n 0, 1) := by decide +kernel
theorem dX9_in_6 : decode cX9_in 6 = .ok (.iload_n 2, 1) := by decide +kernel
theorem dX9_in_7 : decode cX9_in 7 = .ok (.if_icmp .gt 7, 3) := by decide +kernel
theorem dX9_in_10 : decode cX9_in 10 = .ok (.iconst 1, 1) := by decide +kernel
theorem dX9_in_11 : decode cX9_in 11 = .ok (.goto 4, 3) := by decide +kernel
theorem dX9_in_14 : decode cX9_in 14 = .ok (.iconst 0, 1) := by decide +kernel
theorem dX9_in_15 : decode cX9_in 15 = .ok (.ireturn, 1) := by decide +kernel
theorem dX9_isLeg_0 : decode cX9_isLeg 0 = .ok (.iload_n 1, 1) := by decide +kernel
theorem dX9_isLeg_1 : decode cX9_isLeg 1 = .ok (.iconst 0, 1) := by decide +kernel
theorem dX9_isLeg_2 : decode cX9_isLeg 2 = .ok (.aload_n 0, 1) := by decide +kernel
theorem dX9_isLeg_3 : decode cX9_isLeg 3 = .ok (.getfield 9, 3) := by decide +kernel
theorem dX9_isLeg_6 : decode cX9_isLeg 6 = .ok (.iconst 0, 1) := by decide +kernel
theorem dX9_isLeg_7 : decode cX9_isLeg 7 = .ok (.iaload, 1) := by decide +kernel
theorem dX9_isLeg_8 : decode cX9_isLeg 8 = .ok (.iconst 1, 1) := by decide +kernel
theorem dX9_isLeg_9 : decode cX9_isLeg 9 = .ok (.isub, 1) := by decide +kernel
theorem dX9_isLeg_10 : decode cX9_isLeg 10 = .ok (.invokestatic 59, 3) := by decide +kernel
theorem dX9_isLeg_13 : decode cX9_isLeg 13 = .ok (.ireturn, 1) := by decide +kernel
theorem dX9_isCrew_0 : decode cX9_isCrew 0 = .ok (.iload_n 1, 1) := by decide +kernel
theorem dX9_isCrew_1 : decode cX9_isCrew 1 = .ok (.iconst 0, 1) := by decide +kernel
theorem dX9_isCrew_2 : decode cX9_isCrew 2 = .ok (.aload_n 0, 1) := by decide +kernel
theorem dX9_isCrew_3 : decode cX9_isCrew 3 = .ok (.getfield 9, 3) := by decide +kernel
theorem dX9_isCrew_6 : decode cX9_isCrew 6 = .ok (.iconst 1, 1) := by decide +kernel
theorem dX9_isCrew_7 : decode cX9_isCrew 7 = .ok (.iaload, 1) := by decide +kernel
theorem dX9_isCrew_8 : decode cX9_isCrew 8 = .ok (.iconst 1, 1) := by decide +kernel
theorem dX9_isCrew_9 : decode cX9_isCrew 9 = .ok (.isub, 1) := by decide +kernel
theorem dX9_isCrew_10 : decode cX9_isCrew 10 = .ok (.invokestatic 59, 3) := by decide +kernel
theorem dX9_isCrew_13 : decode cX9_isCrew 13 = .ok (.ireturn, 1) := by decide +kernel
theorem dX9_of_0 : decode cX9_of 0 = .ok (.aload_n 0, 1) := by decide +kernel
theorem dX9_of_1 : decode cX9_of 1 = .ok (.getfield 9, 3) := by decide +kernel
theorem dX9_of_4 : decode cX9_of 4 = .ok (.bipush 10, 2) := by decide +kernel
theorem dX9_of_6 : decode cX9_of 6 = .ok (.iconst 5, 1) := by decide +kernel
theorem dX9_of_7 : decode cX9_of 7 = .ok (.iload_n 1, 1) := by decide +kernel
theorem dX9_of_8 : decode cX9_of 8 = .ok (.imul, 1) := by decide +kernel
theorem dX9_of_9 : decode cX9_of 9 = .ok (.iadd, 1) := by decide +kernel
theorem dX9_of_10 : decode cX9_of 10 = .ok (.iload_n 2, 1) := by decide +kernel
theorem dX9_of_11 : decode cX9_of 11 = .ok (.iadd, 1) := by decide +kernel
theorem dX9_of_12 : decode cX9_of 12 = .ok (.iaload, 1) := by decide +kernel
theorem dX9_of_13 : decode cX9_of 13 = .ok (.ireturn, 1) := by decide +kernel
theorem dX9_lengthOf_0 : decode cX9_lengthOf 0 = .ok (.aload_n 0, 1) := by decide +kernel
theorem dX9_lengthOf_1 : decode cX9_lengthOf 1 = .ok (.iload_n 1, 1) := by decide +kernel
theorem dX9_lengthOf_2 : decode cX9_lengthOf 2 = .ok (.iconst 3, 1) := by decide +kernel
theorem dX9_lengthOf_3 : decode cX9_lengthOf 3 = .ok (.invokevirtual 63, 3) := by decide +kernel
theorem dX9_lengthOf_6 : decode cX9_lengthOf 6 = .ok (.aload_n 0, 1) := by decide +kernel
theorem dX9_lengthOf_7 : decode cX9_lengthOf 7 = .ok (.iload_n 1, 1) := by decide +kernel
theorem dX9_lengthOf_8 : decode cX9_lengthOf 8 = .ok (.iconst 2, 1) := by decide +kernel
theorem dX9_lengthOf_9 : decode cX9_lengthOf 9 = .ok (.invokevirtual 63, 3) := by decide +kernel
theorem dX9_lengthOf_12 : decode cX9_lengthOf 12 = .ok (.isub, 1) := by decide +kernel
theorem dX9_lengthOf_13 : decode cX9_lengthOf 13 = .ok (.ireturn, 1) := by decide +kernel
theorem dX9_ofCrew_0 : decode cX9_ofCrew 0 = .ok (.aload_n 0, 1) := by decide +kernel
theorem dX9_ofCrew_1 : decode cX9_ofCrew 1 = .ok (.getfield 9, 3) := by decide +kernel
theorem dX9_ofCrew_4 : decode cX9_ofCrew 4 = .ok (.sipush 130, 3) := by decide +kernel
theorem dX9_ofCrew_7 : decode cX9_ofCrew 7 = .ok (.bipush 28, 2) := by decide +kernel
theorem dX9_ofCrew_9 : decode cX9_ofCrew 9 = .ok (.iload_n 1, 1) := by decide +kernel
theorem dX9_ofCrew_10 : decode cX9_ofCrew 10 = .ok (.imul, 1) := by decide +kernel
theorem dX9_ofCrew_11 : decode cX9_ofCrew 11 = .ok (.iadd, 1) := by decide +kernel
theorem dX9_ofCrew_12 : decode cX9_ofCrew 12 = .ok (.iload_n 2, 1) := by decide +kernel
theorem dX9_ofCrew_13 : decode cX9_ofCrew 13 = .ok (.iadd, 1) := by decide +kernel
theorem dX9_ofCrew_14 : decode cX9_ofCrew 14 = .ok (.iaload, 1) := by decide +kernel
theorem dX9_ofCrew_15 : decode cX9_ofCrew 15 = .ok (.ireturn, 1) := by decide +kernel
theorem dX9_crewAt_0 : decode cX9_crewAt 0 = .ok (.sipush 130, 3) := by decide +kernel
theorem dX9_crewAt_3 : decode cX9_crewAt 3 = .ok (.bipush 28, 2) := by decide +kernel
theorem dX9_crewAt_5 : decode cX9_crewAt 5 = .ok (.iload_n 0, 1) := by decide +kernel
theorem dX9_crewAt_6 : decode cX9_crewAt 6 = .ok (.imul, 1) := by decide +kernel
theorem dX9_crewAt_7 : decode cX9_crewAt 7 = .ok (.iadd, 1) := by decide +kernel
theorem dX9_crewAt_8 : decode cX9_crewAt 8 = .ok (.iload_n 1, 1) := by decide +kernel
theorem dX9_crewAt_9 : decode cX9_crewAt 9 = .ok (.iadd, 1) := by decide +kernel
theorem dX9_crewAt_10 : decode cX9_crewAt 10 = .ok (.ireturn, 1) := by decide +kernel
theorem dX9_push_0 : decode cX9_push 0 = .ok (.aload_n 0, 1) := by decide +kernel
theorem dX9_push_1 : decode cX9_push 1 = .ok (.getfield 67, 3) := by decide +kernel
theorem dX9_push_4 : decode cX9_push 4 = .ok (.bipush 8, 2) := by decide +kernel
theorem dX9_push_6 : decode cX9_push 6 = .ok (.if_icmp .ne 31, 3) := by decide +kernel
theorem dX9_push_9 : decode cX9_push 9 = .ok (.aload_n 0, 1) := by decide +kernel
theorem dX9_push_10 : decode cX9_push 10 = .ok (.getfield 16, 3) := by decide +kernel
theorem dX9_push_13 : decode cX9_push 13 = .ok (.sipush 298, 3) := by decide +kernel
theorem dX9_push_16 : decode cX9_push 16 = .ok (.aload_n 0, 1) := by decide +kernel
theorem dX9_push_17 : decode cX9_push 17 = .ok (.getfield 16, 3) := by decide +kernel
theorem dX9_push_20 : decode cX9_push 20 = .ok (.iconst 0, 1) := by decide +kernel
theorem dX9_push_21 : decode cX9_push 21 = .ok (.sipush 2086, 3) := by decide +kernel
theorem dX9_push_24 : decode cX9_push 24 = .ok (.invokestatic 53, 3) := by decide +kernel
theorem dX9_push_27 : decode cX9_push 27 = .ok (.aload_n 0, 1) := by decide +kernel
theorem dX9_push_28 : decode cX9_push 28 = .ok (.dup, 1) := by decide +kernel
theorem dX9_push_29 : decode cX9_push 29 = .ok (.getfield 67, 3) := by decide +kernel
theorem dX9_push_32 : decode cX9_push 32 = .ok (.iconst 1, 1) := by decide +kernel
theorem dX9_push_33 : decode cX9_push 33 = .ok (.isub, 1) := by decide +kernel
theorem dX9_push_34 : decode cX9_push 34 = .ok (.putfield 67, 3) := by decide +kernel
theorem dX9_push_37 : decode cX9_push 37 = .ok (.aload_n 1, 1) := by decide +kernel
theorem dX9_push_38 : decode cX9_push 38 = .ok (.iconst 0, 1) := by decide +kernel
theorem dX9_push_39 : decode cX9_push 39 = .ok (.aload_n 0, 1) := by decide +kernel
theorem dX9_push_40 : decode cX9_push 40 = .ok (.getfield 16, 3) := by decide +kernel
theorem dX9_push_43 : decode cX9_push 43 = .ok (.sipush 298, 3) := by decide +kernel
theorem dX9_push_46 : decode cX9_push 46 = .ok (.aload_n 0, 1) := by decide +kernel
theorem dX9_push_47 : decode cX9_push 47 = .ok (.getfield 67, 3) := by decide +kernel
theorem dX9_push_50 : decode cX9_push 50 = .ok (.imul, 1) := by decide +kernel
theorem dX9_push_51 : decode cX9_push 51 = .ok (.sipush 298, 3) := by decide +kernel
theorem dX9_push_54 : decode cX9_push 54 = .ok (.invokestatic 53, 3) := by decide +kernel
theorem dX9_push_57 : decode cX9_push 57 = .ok (.aload_n 0, 1) := by decide +kernel
theorem dX9_push_58 : decode cX9_push 58 = .ok (.dup, 1) := by decide +kernel
theorem dX9_push_59 : decode cX9_push 59 = .ok (.getfield 67, 3) := by decide +kernel
theorem dX9_push_62 : decode cX9_push 62 = .ok (.iconst 1, 1) := by decide +kernel
theorem dX9_push_63 : decode cX9_push 63 = .ok (.iadd, 1) := by decide +kernel
theorem dX9_push_64 : decode cX9_push 64 = .ok (.putfield 67, 3) := by decide +kernel
theorem dX9_push_67 : decode cX9_push 67 = .ok (.return_, 1) := by decide +kernel
theorem dX9_change_0 : decode cX9_change 0 = .ok (.aload_n 0, 1) := by decide +kernel
theorem dX9_change_1 : decode cX9_change 1 = .ok (.getfield 71, 3) := by decide +kernel
theorem dX9_change_4 : decode cX9_change 4 = .ok (.ifCond .ne 11, 3) := by decide +kernel
theorem dX9_change_7 : decode cX9_change 7 = .ok (.aload_n 0, 1) := by decide +kernel
theorem dX9_change_8 : decode cX9_change 8 = .ok (.aload_n 0, 1) := by decide +kernel
theorem dX9_change_9 : decode cX9_change 9 = .ok (.getfield 9, 3) := by decide +kernel
theorem dX9_change_12 : decode cX9_change 12 = .ok (.invokevirtual 75, 3) := by decide +kernel
theorem dX9_change_15 : decode cX9_change 15 = .ok (.return_, 1) := by decide +kernel
theorem dX9_isThere_0 : decode cX9_isThere 0 = .ok (.iconst 0, 1) := by decide +kernel
theorem dX9_isThere_1 : decode cX9_isThere 1 = .ok (.istore 5, 2) := by decide +kernel
theorem dX9_isThere_3 : decode cX9_isThere 3 = .ok (.iconst 0, 1) := by decide +kernel
theorem dX9_isThere_4 : decode cX9_isThere 4 = .ok (.istore 6, 2) := by decide +kernel
theorem dX9_isThere_6 : decode cX9_isThere 6 = .ok (.iload 6, 2) := by decide +kernel
theorem dX9_isThere_8 : decode cX9_isThere 8 = .ok (.aload_n 0, 1) := by decide +kernel
theorem dX9_isThere_9 : decode cX9_isThere 9 = .ok (.getfield 9, 3) := by decide +kernel
theorem dX9_isThere_12 : decode cX9_isThere 12 = .ok (.iconst 0, 1) := by decide +kernel
theorem dX9_isThere_13 : decode cX9_isThere 13 = .ok (.iaload, 1) := by decide +kernel
theorem dX9_isThere_14 : decode cX9_isThere 14 = .ok (.if_icmp .ge 61, 3) := by decide +kernel
theorem dX9_isThere_17 : decode cX9_isThere 17 = .ok (.iload 5, 2) := by decide +kernel
theorem dX9_isThere_19 : decode cX9_isThere 19 = .ok (.ifCond .ne 43, 3) := by decide +kernel
theorem dX9_isThere_22 : decode cX9_isThere 22 = .ok (.iload 6, 2) := by decide +kernel
theorem dX9_isThere_24 : decode cX9_isThere 24 = .ok (.iload_n 1, 1) := by decide +kernel
theorem dX9_isThere_25 : decode cX9_isThere 25 = .ok (.if_icmp .eq 41, 3) := by decide +kernel
theorem dX9_isThere_28 : decode cX9_isThere 28 = .ok (.aload_n 0, 1) := by decide +kernel
theorem dX9_isThere_29 : decode cX9_isThere 29 = .ok (.iload 6, 2) := by decide +kernel
theorem dX9_isThere_31 : decode cX9_isThere 31 = .ok (.iconst 0, 1) := by decide +kernel
theorem dX9_isThere_32 : decode cX9_isThere 32 = .ok (.invokevirtual 63, 3) := by decide +kernel
theorem dX9_isThere_35 : decode cX9_isThere 35 = .ok (.iload_n 2, 1) := by decide +kernel
theorem dX9_isThere_36 : decode cX9_isThere 36 = .ok (.if_icmp .ne 30, 3) := by decide +kernel
theorem dX9_isThere_39 : decode cX9_isThere 39 = .ok (.aload_n 0, 1) := by decide +kernel
theorem dX9_isThere_40 : decode cX9_isThere 40 = .ok (.iload 6, 2) := by decide +kernel
theorem dX9_isThere_42 : decode cX9_isThere 42 = .ok (.iconst 1, 1) := by decide +kernel
theorem dX9_isThere_43 : decode cX9_isThere 43 = .ok (.invokevirtual 63, 3) := by decide +kernel
theorem dX9_isThere_46 : decode cX9_isThere 46 = .ok (.iload_n 3, 1) := by decide +kernel
theorem dX9_isThere_47 : decode cX9_isThere 47 = .ok (.if_icmp .ne 19, 3) := by decide +kernel
theorem dX9_isThere_50 : decode cX9_isThere 50 = .ok (.aload_n 0, 1) := by decide +kernel
theorem dX9_isThere_51 : decode cX9_isThere 51 = .ok (.iload 6, 2) := by decide +kernel
theorem dX9_isThere_53 : decode cX9_isThere 53 = .ok (.iconst 2, 1) := by decide +kernel
theorem dX9_isThere_54 : decode cX9_isThere 54 = .ok (.invokevirtual 63, 3) := by decide +kernel
theorem dX9_isThere_57 : decode cX9_isThere 57 = .ok (.iload 4, 2) := by decide +kernel
theorem dX9_isThere_59 : decode cX9_isThere 59 = .ok (.if_icmp .ne 7, 3) := by decide +kernel
theorem dX9_isThere_62 : decode cX9_isThere 62 = .ok (.iconst 1, 1) := by decide +kernel
theorem dX9_isThere_63 : decode cX9_isThere 63 = .ok (.goto 4, 3) := by decide +kernel
theorem dX9_isThere_66 : decode cX9_isThere 66 = .ok (.iconst 0, 1) := by decide +kernel
theorem dX9_isThere_67 : decode cX9_isThere 67 = .ok (.istore 5, 2) := by decide +kernel
theorem dX9_isThere_69 : decode cX9_isThere 69 = .ok (.iinc 6 1, 3) := by decide +kernel
theorem dX9_isThere_72 : decode cX9_isThere 72 = .ok (.goto (-66), 3) := by decide +kernel
theorem dX9_isThere_75 : decode cX9_isThere 75 = .ok (.iload 5, 2) := by decide +kernel
theorem dX9_isThere_77 : decode cX9_isThere 77 = .ok (.ireturn, 1) := by decide +kernel
theorem dX9_addLeg_0 : decode cX9_addLeg 0 = .ok (.iload_n 1, 1) := by decide +kernel
theorem dX9_addLeg_1 : decode cX9_addLeg 1 = .ok (.iconst 0, 1) := by decide +kernel
theorem dX9_addLeg_2 : decode cX9_addLeg 2 = .ok (.iconst 5, 1) := by decide +kernel
theorem dX9_addLeg_3 : decode cX9_addLeg 3 = .ok (.invokestatic 59, 3) := by decide +kernel
theorem dX9_addLeg_6 : decode cX9_addLeg 6 = .ok (.ifCond .eq 32, 3) := by decide +kernel
theorem dX9_addLeg_9 : decode cX9_addLeg 9 = .ok (.iload_n 2, 1) := by decide +kernel
theorem dX9_addLeg_10 : decode cX9_addLeg 10 = .ok (.iconst 0, 1) := by decide +kernel
theorem dX9_addLeg_11 : decode cX9_addLeg 11 = .ok (.iconst 5, 1) := by decide +kernel
theorem dX9_addLeg_12 : decode cX9_addLeg 12 = .ok (.invokestatic 59, 3) := by decide +kernel
theorem dX9_addLeg_15 : decode cX9_addLeg 15 = .ok (.ifCond .eq 23, 3) := by decide +kernel
theorem dX9_addLeg_18 : decode cX9_addLeg 18 = .ok (.iload_n 1, 1) := by decide +kernel
theorem dX9_addLeg_19 : decode cX9_addLeg 19 = .ok (.iload_n 2, 1) := by decide +kernel
theorem dX9_addLeg_20 : decode cX9_addLeg 20 = .ok (.if_icmp .eq 18, 3) := by decide +kernel
theorem dX9_addLeg_23 : decode cX9_addLeg 23 = .ok (.iload_n 3, 1) := by decide +kernel
theorem dX9_addLeg_24 : decode cX9_addLeg 24 = .ok (.iconst 0, 1) := by decide +kernel
theorem dX9_addLeg_25 : decode cX9_addLeg 25 = .ok (.sipush 5999, 3) := by decide +kernel
theorem dX9_addLeg_28 : decode cX9_addLeg 28 = .ok (.invokestatic 59, 3) := by decide +kernel
theorem dX9_addLeg_31 : decode cX9_addLeg 31 = .ok (.ifCond .eq 7, 3) := by decide +kernel
theorem dX9_addLeg_34 : decode cX9_addLeg 34 = .ok (.iconst 1, 1) := by decide +kernel
theorem dX9_addLeg_35 : decode cX9_addLeg 35 = .ok (.goto 4, 3) := by decide +kernel
theorem dX9_addLeg_38 : decode cX9_addLeg 38 = .ok (.iconst 0, 1) := by decide +kernel
theorem dX9_addLeg_39 : decode cX9_addLeg 39 = .ok (.istore 5, 2) := by decide +kernel
theorem dX9_addLeg_41 : decode cX9_addLeg 41 = .ok (.iload 5, 2) := by decide +kernel
theorem dX9_addLeg_43 : decode cX9_addLeg 43 = .ok (.ifCond .eq 25, 3) := by decide +kernel
theorem dX9_addLeg_46 : decode cX9_addLeg 46 = .ok (.iload 4, 2) := by decide +kernel
theorem dX9_addLeg_48 : decode cX9_addLeg 48 = .ok (.iload_n 3, 1) := by decide +kernel
theorem dX9_addLeg_49 : decode cX9_addLeg 49 = .ok (.iconst 1, 1) := by decide +kernel
theorem dX9_addLeg_50 : decode cX9_addLeg 50 = .ok (.iadd, 1) := by decide +kernel
theorem dX9_addLeg_51 : decode cX9_addLeg 51 = .ok (.iload_n 3, 1) := by decide +kernel
theorem dX9_addLeg_52 : decode cX9_addLeg 52 = .ok (.sipush 600, 3) := by decide +kernel
theorem dX9_addLeg_55 : decode cX9_addLeg 55 = .ok (.iadd, 1) := by decide +kernel
theorem dX9_addLeg_56 : decode cX9_addLeg 56 = .ok (.sipush 5999, 3) := by decide +kernel
theorem dX9_addLeg_59 : decode cX9_addLeg 59 = .ok (.invokestatic 79, 3) := by decide +kernel
theorem dX9_addLeg_62 : decode cX9_addLeg 62 = .ok (.invokestatic 59, 3) := by decide +kernel
theorem dX9_addLeg_65 : decode cX9_addLeg 65 = .ok (.ifCond .ne 5, 3) := by decide +kernel
theorem dX9_addLeg_68 : decode cX9_addLeg 68 = .ok (.iconst (-1), 1) := by decide +kernel
theorem dX9_addLeg_69 : decode cX9_addLeg 69 = .ok (.ireturn, 1) := by decide +kernel
theorem dX9_addLeg_70 : decode cX9_addLeg 70 = .ok (.aload_n 0, 1) := by decide +kernel
theorem dX9_addLeg_71 : decode cX9_addLeg 71 = .ok (.iconst (-1), 1) := by decide +kernel
theorem dX9_addLeg_72 : decode cX9_addLeg 72 = .ok (.iload_n 1, 1) := by decide +kernel
theorem dX9_addLeg_73 : decode cX9_addLeg 73 = .ok (.iload_n 2, 1) := by decide +kernel
theorem dX9_addLeg_74 : decode cX9_addLeg 74 = .ok (.iload_n 3, 1) := by decide +kernel
theorem dX9_addLeg_75 : decode cX9_addLeg 75 = .ok (.invokevirtual 84, 3) := by decide +kernel
theorem dX9_addLeg_78 : decode cX9_addLeg 78 = .ok (.ifCond .eq 6, 3) := by decide +kernel
theorem dX9_addLeg_81 : decode cX9_addLeg 81 = .ok (.bipush (-4), 2) := by decide +kernel
theorem dX9_addLeg_83 : decode cX9_addLeg 83 = .ok (.ireturn, 1) := by decide +kernel
theorem dX9_addLeg_84 : decode cX9_addLeg 84 = .ok (.aload_n 0, 1) := by decide +kernel
theorem dX9_addLeg_85 : decode cX9_addLeg 85 = .ok (.getfield 9, 3) := by decide +kernel
theorem dX9_addLeg_88 : decode cX9_addLeg 88 = .ok (.iconst 0, 1) := by decide +kernel
theorem dX9_addLeg_89 : decode cX9_addLeg 89 = .ok (.iaload, 1) := by decide +kernel
theorem dX9_addLeg_90 : decode cX9_addLeg 90 = .ok (.bipush 24, 2) := by decide +kernel
theorem dX9_addLeg_92 : decode cX9_addLeg 92 = .ok (.if_icmp .ne 6, 3) := by decide +kernel
theorem dX9_addLeg_95 : decode cX9_addLeg 95 = .ok (.bipush (-3), 2) := by decide +kernel
theorem dX9_addLeg_97 : decode cX9_addLeg 97 = .ok (.ireturn, 1) := by decide +kernel
theorem dX9_addLeg_98 : decode cX9_addLeg 98 = .ok (.aload_n 0, 1) := by decide +kernel
theorem dX9_addLeg_99 : decode cX9_addLeg 99 = .ok (.invokevirtual 88, 3) := by decide +kernel
theorem dX9_addLeg_102 : decode cX9_addLeg 102 = .ok (.bipush 10, 2) := by decide +kernel
theorem dX9_addLeg_104 : decode cX9_addLeg 104 = .ok (.iconst 5, 1) := by decide +kernel
theorem dX9_addLeg_105 : decode cX9_addLeg 105 = .ok (.aload_n 0, 1) := by decide +kernel
theorem dX9_addLeg_106 : decode cX9_addLeg 106 = .ok (.getfield 9, 3) := by decide +kernel
theorem dX9_addLeg_109 : decode cX9_addLeg 109 = .ok (.iconst 0, 1) := by decide +kernel
theorem dX9_addLeg_110 : decode cX9_addLeg 110 = .ok (.iaload, 1) := by decide +kernel
theorem dX9_addLeg_111 : decode cX9_addLeg 111 = .ok (.imul, 1) := by decide +kernel
theorem dX9_addLeg_112 : decode cX9_addLeg 112 = .ok (.iadd, 1) := by decide +kernel
theorem dX9_addLeg_113 : decode cX9_addLeg 113 = .ok (.istore 6, 2) := by decide +kernel
theorem dX9_addLeg_115 : decode cX9_addLeg 115 = .ok (.aload_n 0, 1) := by decide +kernel
theorem dX9_addLeg_116 : decode cX9_addLeg 116 = .ok (.getfield 9, 3) := by decide +kernel
theorem dX9_addLeg_119 : decode cX9_addLeg 119 = .ok (.iload 6, 2) := by decide +kernel
theorem dX9_addLeg_121 : decode cX9_addLeg 121 = .ok (.iconst 0, 1) := by decide +kernel
theorem dX9_addLeg_122 : decode cX9_addLeg 122 = .ok (.iadd, 1) := by decide +kernel
theorem dX9_addLeg_123 : decode cX9_addLeg 123 = .ok (.iload_n 1, 1) := by decide +kernel
theorem dX9_addLeg_124 : decode cX9_addLeg 124 = .ok (.iastore, 1) := by decide +kernel
theorem dX9_addLeg_125 : decode cX9_addLeg 125 = .ok (.aload_n 0, 1) := by decide +kernel
theorem dX9_addLeg_126 : decode cX9_addLeg 126 = .ok (.getfield 9, 3) := by decide +kernel
theorem dX9_addLeg_129 : decode cX9_addLeg 129 = .ok (.iload 6, 2) := by decide +kernel
theorem dX9_addLeg_131 : decode cX9_addLeg 131 = .ok (.iconst 1, 1) := by decide +kernel
theorem dX9_addLeg_132 : decode cX9_addLeg 132 = .ok (.iadd, 1) := by decide +kernel
theorem dX9_addLeg_133 : decode cX9_addLeg 133 = .ok (.iload_n 2, 1) := by decide +kernel
theorem dX9_addLeg_134 : decode cX9_addLeg 134 = .ok (.iastore, 1) := by decide +kernel
theorem dX9_addLeg_135 : decode cX9_addLeg 135 = .ok (.aload_n 0, 1) := by decide +kernel
theorem dX9_addLeg_136 : decode cX9_addLeg 136 = .ok (.getfield 9, 3) := by decide +kernel
theorem dX9_addLeg_139 : decode cX9_addLeg 139 = .ok (.iload 6, 2) := by decide +kernel
theorem dX9_addLeg_141 : decode cX9_addLeg 141 = .ok (.iconst 2, 1) := by decide +kernel
theorem dX9_addLeg_142 : decode cX9_addLeg 142 = .ok (.iadd, 1) := by decide +kernel
theorem dX9_addLeg_143 : decode cX9_addLeg 143 = .ok (.iload_n 3, 1) := by decide +kernel
theorem dX9_addLeg_144 : decode cX9_addLeg 144 = .ok (.iastore, 1) := by decide +kernel
theorem dX9_addLeg_145 : decode cX9_addLeg 145 = .ok (.aload_n 0, 1) := by decide +kernel
theorem dX9_addLeg_146 : decode cX9_addLeg 146 = .ok (.getfield 9, 3) := by decide +kernel
theorem dX9_addLeg_149 : decode cX9_addLeg 149 = .ok (.iload 6, 2) := by decide +kernel
theorem dX9_addLeg_151 : decode cX9_addLeg 151 = .ok (.iconst 3, 1) := by decide +kernel
theorem dX9_addLeg_152 : decode cX9_addLeg 152 = .ok (.iadd, 1) := by decide +kernel
theorem dX9_addLeg_153 : decode cX9_addLeg 153 = .ok (.iload 4, 2) := by decide +kernel
theorem dX9_addLeg_155 : decode cX9_addLeg 155 = .ok (.iastore, 1) := by decide +kernel
theorem dX9_addLeg_156 : decode cX9_addLeg 156 = .ok (.aload_n 0, 1) := by decide +kernel
theorem dX9_addLeg_157 : decode cX9_addLeg 157 = .ok (.getfield 9, 3) := by decide +kernel
theorem dX9_addLeg_160 : decode cX9_addLeg 160 = .ok (.iload 6, 2) := by decide +kernel
theorem dX9_addLeg_162 : decode cX9_addLeg 162 = .ok (.iconst 4, 1) := by decide +kernel
theorem dX9_addLeg_163 : decode cX9_addLeg 163 = .ok (.iadd, 1) := by decide +kernel
theorem dX9_addLeg_164 : decode cX9_addLeg 164 = .ok (.iconst 0, 1) := by decide +kernel
theorem dX9_addLeg_165 : decode cX9_addLeg 165 = .ok (.iastore, 1) := by decide +kernel
theorem dX9_addLeg_166 : decode cX9_addLeg 166 = .ok (.aload_n 0, 1) := by decide +kernel
theorem dX9_addLeg_167 : decode cX9_addLeg 167 = .ok (.getfield 9, 3) := by decide +kernel
theorem dX9_addLeg_170 : decode cX9_addLeg 170 = .ok (.iconst 0, 1) := by decide +kernel
theorem dX9_addLeg_171 : decode cX9_addLeg 171 = .ok (.dup2, 1) := by decide +kernel
theorem dX9_addLeg_172 : decode cX9_addLeg 172 = .ok (.iaload, 1) := by decide +kernel
theorem dX9_addLeg_173 : decode cX9_addLeg 173 = .ok (.iconst 1, 1) := by decide +kernel
theorem dX9_addLeg_174 : decode cX9_addLeg 174 = .ok (.iadd, 1) := by decide +kernel
theorem dX9_addLeg_175 : decode cX9_addLeg 175 = .ok (.iastore, 1) := by decide +kernel
theorem dX9_addLeg_176 : decode cX9_addLeg 176 = .ok (.aload_n 0, 1) := by decide +kernel
theorem dX9_addLeg_177 : decode cX9_addLeg 177 = .ok (.getfield 9, 3) := by decide +kernel
theorem dX9_addLeg_180 : decode cX9_addLeg 180 = .ok (.iconst 0, 1) := by decide +kernel
theorem dX9_addLeg_181 : decode cX9_addLeg 181 = .ok (.iaload, 1) := by decide +kernel
theorem dX9_addLeg_182 : decode cX9_addLeg 182 = .ok (.iconst 1, 1) := by decide +kernel
theorem dX9_addLeg_183 : decode cX9_addLeg 183 = .ok (.isub, 1) := by decide +kernel
theorem dX9_addLeg_184 : decode cX9_addLeg 184 = .ok (.ireturn, 1) := by decide +kernel
theorem dX9_addCrew_0 : decode cX9_addCrew 0 = .ok (.iload_n 1, 1) := by decide +kernel
theorem dX9_addCrew_1 : decode cX9_addCrew 1 = .ok (.iconst 0, 1) := by decide +kernel
theorem dX9_addCrew_2 : decode cX9_addCrew 2 = .ok (.iconst 5, 1) := by decide +kernel
theorem dX9_addCrew_3 : decode cX9_addCrew 3 = .ok (.invokestatic 59, 3) := by decide +kernel
theorem dX9_addCrew_6 : decode cX9_addCrew 6 = .ok (.ifCond .ne 5, 3) := by decide +kernel
theorem dX9_addCrew_9 : decode cX9_addCrew 9 = .ok (.iconst (-1), 1) := by decide +kernel
theorem dX9_addCrew_10 : decode cX9_addCrew 10 = .ok (.ireturn, 1) := by decide +kernel
theorem dX9_addCrew_11 : decode cX9_addCrew 11 = .ok (.aload_n 0, 1) := by decide +kernel
theorem dX9_addCrew_12 : decode cX9_addCrew 12 = .ok (.getfield 9, 3) := by decide +kernel
theorem dX9_addCrew_15 : decode cX9_addCrew 15 = .ok (.iconst 1, 1) := by decide +kernel
theorem dX9_addCrew_16 : decode cX9_addCrew 16 = .ok (.iaload, 1) := by decide +kernel
theorem dX9_addCrew_17 : decode cX9_addCrew 17 = .ok (.bipush 6, 2) := by decide +kernel
theorem dX9_addCrew_19 : decode cX9_addCrew 19 = .ok (.if_icmp .ne 6, 3) := by decide +kernel
theorem dX9_addCrew_22 : decode cX9_addCrew 22 = .ok (.bipush (-3), 2) := by decide +kernel
theorem dX9_addCrew_24 : decode cX9_addCrew 24 = .ok (.ireturn, 1) := by decide +kernel
theorem dX9_addCrew_25 : decode cX9_addCrew 25 = .ok (.aload_n 0, 1) := by decide +kernel
theorem dX9_addCrew_26 : decode cX9_addCrew 26 = .ok (.invokevirtual 88, 3) := by decide +kernel
theorem dX9_addCrew_29 : decode cX9_addCrew 29 = .ok (.aload_n 0, 1) := by decide +kernel
theorem dX9_addCrew_30 : decode cX9_addCrew 30 = .ok (.getfield 9, 3) := by decide +kernel
theorem dX9_addCrew_33 : decode cX9_addCrew 33 = .ok (.iconst 1, 1) := by decide +kernel
theorem dX9_addCrew_34 : decode cX9_addCrew 34 = .ok (.iaload, 1) := by decide +kernel
theorem dX9_addCrew_35 : decode cX9_addCrew 35 = .ok (.istore_n 2, 1) := by decide +kernel
theorem dX9_addCrew_36 : decode cX9_addCrew 36 = .ok (.iconst 0, 1) := by decide +kernel
theorem dX9_addCrew_37 : decode cX9_addCrew 37 = .ok (.istore_n 3, 1) := by decide +kernel
theorem dX9_addCrew_38 : decode cX9_addCrew 38 = .ok (.iload_n 3, 1) := by decide +kernel
theorem dX9_addCrew_39 : decode cX9_addCrew 39 = .ok (.bipush 28, 2) := by decide +kernel
theorem dX9_addCrew_41 : decode cX9_addCrew 41 = .ok (.if_icmp .ge 20, 3) := by decide +kernel
theorem dX9_addCrew_44 : decode cX9_addCrew 44 = .ok (.aload_n 0, 1) := by decide +kernel
theorem dX9_addCrew_45 : decode cX9_addCrew 45 = .ok (.getfield 9, 3) := by decide +kernel
theorem dX9_addCrew_48 : decode cX9_addCrew 48 = .ok (.iload_n 2, 1) := by decide +kernel
theorem dX9_addCrew_49 : decode cX9_addCrew 49 = .ok (.iload_n 3, 1) := by decide +kernel
theorem dX9_addCrew_50 : decode cX9_addCrew 50 = .ok (.invokestatic 91, 3) := by decide +kernel
theorem dX9_addCrew_53 : decode cX9_addCrew 53 = .ok (.iconst 0, 1) := by decide +kernel
theorem dX9_addCrew_54 : decode cX9_addCrew 54 = .ok (.iastore, 1) := by decide +kernel
theorem dX9_addCrew_55 : decode cX9_addCrew 55 = .ok (.iinc 3 1, 3) := by decide +kernel
theorem dX9_addCrew_58 : decode cX9_addCrew 58 = .ok (.goto (-20), 3) := by decide +kernel
theorem dX9_addCrew_61 : decode cX9_addCrew 61 = .ok (.aload_n 0, 1) := by decide +kernel
theorem dX9_addCrew_62 : decode cX9_addCrew 62 = .ok (.getfield 9, 3) := by decide +kernel
theorem dX9_addCrew_65 : decode cX9_addCrew 65 = .ok (.iload_n 2, 1) := by decide +kernel
theorem dX9_addCrew_66 : decode cX9_addCrew 66 = .ok (.iconst 0, 1) := by decide +kernel
theorem dX9_addCrew_67 : decode cX9_addCrew 67 = .ok (.invokestatic 91, 3) := by decide +kernel
theorem dX9_addCrew_70 : decode cX9_addCrew 70 = .ok (.iload_n 1, 1) := by decide +kernel
theorem dX9_addCrew_71 : decode cX9_addCrew 71 = .ok (.iastore, 1) := by decide +kernel
theorem dX9_addCrew_72 : decode cX9_addCrew 72 = .ok (.aload_n 0, 1) := by decide +kernel
theorem dX9_addCrew_73 : decode cX9_addCrew 73 = .ok (.getfield 9, 3) := by decide +kernel
theorem dX9_addCrew_76 : decode cX9_addCrew 76 = .ok (.iconst 1, 1) := by decide +kernel
theorem dX9_addCrew_77 : decode cX9_addCrew 77 = .ok (.dup2, 1) := by decide +kernel
theorem dX9_addCrew_78 : decode cX9_addCrew 78 = .ok (.iaload, 1) := by decide +kernel
theorem dX9_addCrew_79 : decode cX9_addCrew 79 = .ok (.iconst 1, 1) := by decide +kernel
theorem dX9_addCrew_80 : decode cX9_addCrew 80 = .ok (.iadd, 1) := by decide +kernel
theorem dX9_addCrew_81 : decode cX9_addCrew 81 = .ok (.iastore, 1) := by decide +kernel
theorem dX9_addCrew_82 : decode cX9_addCrew 82 = .ok (.iload_n 2, 1) := by decide +kernel
theorem dX9_addCrew_83 : decode cX9_addCrew 83 = .ok (.ireturn, 1) := by decide +kernel
theorem dX9_legCount_0 : decode cX9_legCount 0 = .ok (.aload_n 0, 1) := by decide +kernel
theorem dX9_legCount_1 : decode cX9_legCount 1 = .ok (.getfield 9, 3) := by decide +kernel
theorem dX9_legCount_4 : decode cX9_legCount 4 = .ok (.iconst 0, 1) := by decide +kernel
theorem dX9_legCount_5 : decode cX9_legCount 5 = .ok (.iaload, 1) := by decide +kernel
theorem dX9_legCount_6 : decode cX9_legCount 6 = .ok (.ireturn, 1) := by decide +kernel
theorem dX9_crewCount_0 : decode cX9_crewCount 0 = .ok (.aload_n 0, 1) := by decide +kernel
theorem dX9_crewCount_1 : decode cX9_crewCount 1 = .ok (.getfield 9, 3) := by decide +kernel
theorem dX9_crewCount_4 : decode cX9_crewCount 4 = .ok (.iconst 1, 1) := by decide +kernel
theorem dX9_crewCount_5 : decode cX9_crewCount 5 = .ok (.iaload, 1) := by decide +kernel
theorem dX9_crewCount_6 : decode cX9_crewCount 6 = .ok (.ireturn, 1) := by decide +kernel
theorem dX9_placeIn_0 : decode cX9_placeIn 0 = .ok (.iconst 0, 1) := by decide +kernel
theorem dX9_placeIn_1 : decode cX9_placeIn 1 = .ok (.istore_n 3, 1) := by decide +kernel
theorem dX9_placeIn_2 : decode cX9_placeIn 2 = .ok (.iload_n 3, 1) := by decide +kernel
theorem dX9_placeIn_3 : decode cX9_placeIn 3 = .ok (.aload_n 0, 1) := by decide +kernel
theorem dX9_placeIn_4 : decode cX9_placeIn 4 = .ok (.iload_n 1, 1) := by decide +kernel
theorem dX9_placeIn_5 : decode cX9_placeIn 5 = .ok (.iconst 3, 1) := by decide +kernel
theorem dX9_placeIn_6 : decode cX9_placeIn 6 = .ok (.invokevirtual 94, 3) := by decide +kernel
theorem dX9_placeIn_9 : decode cX9_placeIn 9 = .ok (.if_icmp .ge 25, 3) := by decide +kernel
theorem dX9_placeIn_12 : decode cX9_placeIn 12 = .ok (.aload_n 0, 1) := by decide +kernel
theorem dX9_placeIn_13 : decode cX9_placeIn 13 = .ok (.iload_n 1, 1) := by decide +kernel
theorem dX9_placeIn_14 : decode cX9_placeIn 14 = .ok (.iconst 4, 1) := by decide +kernel
theorem dX9_placeIn_15 : decode cX9_placeIn 15 = .ok (.iload_n 3, 1) := by decide +kernel
theorem dX9_placeIn_16 : decode cX9_placeIn 16 = .ok (.iadd, 1) := by decide +kernel
theorem dX9_placeIn_17 : decode cX9_placeIn 17 = .ok (.invokevirtual 94, 3) := by decide +kernel
theorem dX9_placeIn_20 : decode cX9_placeIn 20 = .ok (.iconst 2, 1) := by decide +kernel
theorem dX9_placeIn_21 : decode cX9_placeIn 21 = .ok (.idiv, 1) := by decide +kernel
theorem dX9_placeIn_22 : decode cX9_placeIn 22 = .ok (.iload_n 2, 1) := by decide +kernel
theorem dX9_placeIn_23 : decode cX9_placeIn 23 = .ok (.if_icmp .ne 5, 3) := by decide +kernel
theorem dX9_placeIn_26 : decode cX9_placeIn 26 = .ok (.iload_n 3, 1) := by decide +kernel
theorem dX9_placeIn_27 : decode cX9_placeIn 27 = .ok (.ireturn, 1) := by decide +kernel
theorem dX9_placeIn_28 : decode cX9_placeIn 28 = .ok (.iinc 3 1, 3) := by decide +kernel
theorem dX9_placeIn_31 : decode cX9_placeIn 31 = .ok (.goto (-29), 3) := by decide +kernel
theorem dX9_placeIn_34 : decode cX9_placeIn 34 = .ok (.iconst (-1), 1) := by decide +kernel
theorem dX9_placeIn_35 : decode cX9_placeIn 35 = .ok (.ireturn, 1) := by decide +kernel
theorem dX9_flierOf_0 : decode cX9_flierOf 0 = .ok (.iconst 0, 1) := by decide +kernel
theorem dX9_flierOf_1 : decode cX9_flierOf 1 = .ok (.istore_n 2, 1) := by decide +kernel
theorem dX9_flierOf_2 : decode cX9_flierOf 2 = .ok (.iload_n 2, 1) := by decide +kernel
theorem dX9_flierOf_3 : decode cX9_flierOf 3 = .ok (.aload_n 0, 1) := by decide +kernel
theorem dX9_flierOf_4 : decode cX9_flierOf 4 = .ok (.getfield 9, 3) := by decide +kernel
theorem dX9_flierOf_7 : decode cX9_flierOf 7 = .ok (.iconst 1, 1) := by decide +kernel
theorem dX9_flierOf_8 : decode cX9_flierOf 8 = .ok (.iaload, 1) := by decide +kernel
theorem dX9_flierOf_9 : decode cX9_flierOf 9 = .ok (.if_icmp .ge 36, 3) := by decide +kernel
theorem dX9_flierOf_12 : decode cX9_flierOf 12 = .ok (.aload_n 0, 1) := by decide +kernel
theorem dX9_flierOf_13 : decode cX9_flierOf 13 = .ok (.iload_n 2, 1) := by decide +kernel
theorem dX9_flierOf_14 : decode cX9_flierOf 14 = .ok (.iload_n 1, 1) := by decide +kernel
theorem dX9_flierOf_15 : decode cX9_flierOf 15 = .ok (.invokevirtual 97, 3) := by decide +kernel
theorem dX9_flierOf_18 : decode cX9_flierOf 18 = .ok (.istore_n 3, 1) := by decide +kernel
theorem dX9_flierOf_19 : decode cX9_flierOf 19 = .ok (.iload_n 3, 1) := by decide +kernel
theorem dX9_flierOf_20 : decode cX9_flierOf 20 = .ok (.ifCond .lt 19, 3) := by decide +kernel
theorem dX9_flierOf_23 : decode cX9_flierOf 23 = .ok (.aload_n 0, 1) := by decide +kernel
theorem dX9_flierOf_24 : decode cX9_flierOf 24 = .ok (.iload_n 2, 1) := by decide +kernel
theorem dX9_flierOf_25 : decode cX9_flierOf 25 = .ok (.iconst 4, 1) := by decide +kernel
theorem dX9_flierOf_26 : decode cX9_flierOf 26 = .ok (.iload_n 3, 1) := by decide +kernel
theorem dX9_flierOf_27 : decode cX9_flierOf 27 = .ok (.iadd, 1) := by decide +kernel
theorem dX9_flierOf_28 : decode cX9_flierOf 28 = .ok (.invokevirtual 94, 3) := by decide +kernel
theorem dX9_flierOf_31 : decode cX9_flierOf 31 = .ok (.iconst 2, 1) := by decide +kernel
theorem dX9_flierOf_32 : decode cX9_flierOf 32 = .ok (.irem, 1) := by decide +kernel
theorem dX9_flierOf_33 : decode cX9_flierOf 33 = .ok (.iconst 1, 1) := by decide +kernel
theorem dX9_flierOf_34 : decode cX9_flierOf 34 = .ok (.if_icmp .ne 5, 3) := by decide +kernel
theorem dX9_flierOf_37 : decode cX9_flierOf 37 = .ok (.iload_n 2, 1) := by decide +kernel
theorem dX9_flierOf_38 : decode cX9_flierOf 38 = .ok (.ireturn, 1) := by decide +kernel
theorem dX9_flierOf_39 : decode cX9_flierOf 39 = .ok (.iinc 2 1, 3) := by decide +kernel
theorem dX9_flierOf_42 : decode cX9_flierOf 42 = .ok (.goto (-40), 3) := by decide +kernel
theorem dX9_flierOf_45 : decode cX9_flierOf 45 = .ok (.bipush (-2), 2) := by decide +kernel
theorem dX9_flierOf_47 : decode cX9_flierOf 47 = .ok (.ireturn, 1) := by decide +kernel
theorem dX9_leg_0 : decode cX9_leg 0 = .ok (.aload_n 0, 1) := by decide +kernel
theorem dX9_leg_1 : decode cX9_leg 1 = .ok (.iload_n 1, 1) := by decide +kernel
theorem dX9_leg_2 : decode cX9_leg 2 = .ok (.invokevirtual 100, 3) := by decide +kernel
theorem dX9_leg_5 : decode cX9_leg 5 = .ok (.ifCond .eq 12, 3) := by decide +kernel
theorem dX9_leg_8 : decode cX9_leg 8 = .ok (.iload_n 2, 1) := by decide +kernel
theorem dX9_leg_9 : decode cX9_leg 9 = .ok (.iconst 0, 1) := by decide +kernel
theorem dX9_leg_10 : decode cX9_leg 10 = .ok (.iconst 5, 1) := by decide +kernel
theorem dX9_leg_11 : decode cX9_leg 11 = .ok (.invokestatic 59, 3) := by decide +kernel
theorem dX9_leg_14 : decode cX9_leg 14 = .ok (.ifCond .ne 5, 3) := by decide +kernel
theorem dX9_leg_17 : decode cX9_leg 17 = .ok (.iconst (-1), 1) := by decide +kernel
theorem dX9_leg_18 : decode cX9_leg 18 = .ok (.ireturn, 1) := by decide +kernel
theorem dX9_leg_19 : decode cX9_leg 19 = .ok (.iload_n 2, 1) := by decide +kernel
theorem dX9_leg_20 : decode cX9_leg 20 = .ok (.iconst 5, 1) := by decide +kernel
theorem dX9_leg_21 : decode cX9_leg 21 = .ok (.if_icmp .ge 12, 3) := by decide +kernel
theorem dX9_leg_24 : decode cX9_leg 24 = .ok (.aload_n 0, 1) := by decide +kernel
theorem dX9_leg_25 : decode cX9_leg 25 = .ok (.iload_n 1, 1) := by decide +kernel
theorem dX9_leg_26 : decode cX9_leg 26 = .ok (.iload_n 2, 1) := by decide +kernel
theorem dX9_leg_27 : decode cX9_leg 27 = .ok (.invokevirtual 63, 3) := by decide +kernel
theorem dX9_leg_30 : decode cX9_leg 30 = .ok (.goto 8, 3) := by decide +kernel
theorem dX9_leg_33 : decode cX9_leg 33 = .ok (.aload_n 0, 1) := by decide +kernel
theorem dX9_leg_34 : decode cX9_leg 34 = .ok (.iload_n 1, 1) := by decide +kernel
theorem dX9_leg_35 : decode cX9_leg 35 = .ok (.invokevirtual 104, 3) := by decide +kernel
theorem dX9_leg_38 : decode cX9_leg 38 = .ok (.ireturn, 1) := by decide +kernel
theorem dX9_setRule_0 : decode cX9_setRule 0 = .ok (.iload_n 1, 1) := by decide +kernel
theorem dX9_setRule_1 : decode cX9_setRule 1 = .ok (.iconst 0, 1) := by decide +kernel
theorem dX9_setRule_2 : decode cX9_setRule 2 = .ok (.bipush 7, 2) := by decide +kernel
theorem dX9_setRule_4 : decode cX9_setRule 4 = .ok (.invokestatic 59, 3) := by decide +kernel
theorem dX9_setRule_7 : decode cX9_setRule 7 = .ok (.ifCond .eq 20, 3) := by decide +kernel
theorem dX9_setRule_10 : decode cX9_setRule 10 = .ok (.iload_n 2, 1) := by decide +kernel
theorem dX9_setRule_11 : decode cX9_setRule 11 = .ok (.getstatic 108, 3) := by decide +kernel
theorem dX9_setRule_14 : decode cX9_setRule 14 = .ok (.iload_n 1, 1) := by decide +kernel
theorem dX9_setRule_15 : decode cX9_setRule 15 = .ok (.iaload, 1) := by decide +kernel
theorem dX9_setRule_16 : decode cX9_setRule 16 = .ok (.getstatic 111, 3) := by decide +kernel
theorem dX9_setRule_19 : decode cX9_setRule 19 = .ok (.iload_n 1, 1) := by decide +kernel
theorem dX9_setRule_20 : decode cX9_setRule 20 = .ok (.iaload, 1) := by decide +kernel
theorem dX9_setRule_21 : decode cX9_setRule 21 = .ok (.invokestatic 59, 3) := by decide +kernel
theorem dX9_setRule_24 : decode cX9_setRule 24 = .ok (.ifCond .ne 5, 3) := by decide +kernel
theorem dX9_setRule_27 : decode cX9_setRule 27 = .ok (.iconst (-1), 1) := by decide +kernel
theorem dX9_setRule_28 : decode cX9_setRule 28 = .ok (.ireturn, 1) := by decide +kernel
theorem dX9_setRule_29 : decode cX9_setRule 29 = .ok (.aload_n 0, 1) := by decide +kernel
theorem dX9_setRule_30 : decode cX9_setRule 30 = .ok (.invokevirtual 88, 3) := by decide +kernel
theorem dX9_setRule_33 : decode cX9_setRule 33 = .ok (.aload_n 0, 1) := by decide +kernel
theorem dX9_setRule_34 : decode cX9_setRule 34 = .ok (.getfield 9, 3) := by decide +kernel
theorem dX9_setRule_37 : decode cX9_setRule 37 = .ok (.iconst 2, 1) := by decide +kernel
theorem dX9_setRule_38 : decode cX9_setRule 38 = .ok (.iload_n 1, 1) := by decide +kernel
theorem dX9_setRule_39 : decode cX9_setRule 39 = .ok (.iadd, 1) := by decide +kernel
theorem dX9_setRule_40 : decode cX9_setRule 40 = .ok (.iaload, 1) := by decide +kernel
theorem dX9_setRule_41 : decode cX9_setRule 41 = .ok (.istore_n 3, 1) := by decide +kernel
theorem dX9_setRule_42 : decode cX9_setRule 42 = .ok (.aload_n 0, 1) := by decide +kernel
theorem dX9_setRule_43 : decode cX9_setRule 43 = .ok (.getfield 9, 3) := by decide +kernel
theorem dX9_setRule_46 : decode cX9_setRule 46 = .ok (.iconst 2, 1) := by decide +kernel
theorem dX9_setRule_47 : decode cX9_setRule 47 = .ok (.iload_n 1, 1) := by decide +kernel
theorem dX9_setRule_48 : decode cX9_setRule 48 = .ok (.iadd, 1) := by decide +kernel
theorem dX9_setRule_49 : decode cX9_setRule 49 = .ok (.iload_n 2, 1) := by decide +kernel
theorem dX9_setRule_50 : decode cX9_setRule 50 = .ok (.iastore, 1) := by decide +kernel
theorem dX9_setRule_51 : decode cX9_setRule 51 = .ok (.iload_n 3, 1) := by decide +kernel
theorem dX9_setRule_52 : decode cX9_setRule 52 = .ok (.ireturn, 1) := by decide +kernel
theorem dX9_rule_0 : decode cX9_rule 0 = .ok (.iload_n 1, 1) := by decide +kernel
theorem dX9_rule_1 : decode cX9_rule 1 = .ok (.iconst 0, 1) := by decide +kernel
theorem dX9_rule_2 : decode cX9_rule 2 = .ok (.bipush 7, 2) := by decide +kernel
theorem dX9_rule_4 : decode cX9_rule 4 = .ok (.invokestatic 59, 3) := by decide +kernel
theorem dX9_rule_7 : decode cX9_rule 7 = .ok (.ifCond .eq 14, 3) := by decide +kernel
theorem dX9_rule_10 : decode cX9_rule 10 = .ok (.aload_n 0, 1) := by decide +kernel
theorem dX9_rule_11 : decode cX9_rule 11 = .ok (.getfield 9, 3) := by decide +kernel
theorem dX9_rule_14 : decode cX9_rule 14 = .ok (.iconst 2, 1) := by decide +kernel
theorem dX9_rule_15 : decode cX9_rule 15 = .ok (.iload_n 1, 1) := by decide +kernel
theorem dX9_rule_16 : decode cX9_rule 16 = .ok (.iadd, 1) := by decide +kernel
theorem dX9_rule_17 : decode cX9_rule 17 = .ok (.iaload, 1) := by decide +kernel
theorem dX9_rule_18 : decode cX9_rule 18 = .ok (.goto 4, 3) := by decide +kernel
theorem dX9_rule_21 : decode cX9_rule 21 = .ok (.iconst (-1), 1) := by decide +kernel
theorem dX9_rule_22 : decode cX9_rule 22 = .ok (.ireturn, 1) := by decide +kernel
theorem dX9_take_0 : decode cX9_take 0 = .ok (.aload_n 0, 1) := by decide +kernel
theorem dX9_take_1 : decode cX9_take 1 = .ok (.aload_n 0, 1) := by decide +kernel
theorem dX9_take_2 : decode cX9_take 2 = .ok (.iload_n 1, 1) := by decide +kernel
theorem dX9_take_3 : decode cX9_take 3 = .ok (.iconst 3, 1) := by decide +kernel
theorem dX9_take_4 : decode cX9_take 4 = .ok (.invokevirtual 94, 3) := by decide +kernel
theorem dX9_take_7 : decode cX9_take 7 = .ok (.putfield 114, 3) := by decide +kernel
theorem dX9_take_10 : decode cX9_take 10 = .ok (.aload_n 0, 1) := by decide +kernel
theorem dX9_take_11 : decode cX9_take 11 = .ok (.aload_n 0, 1) := by decide +kernel
theorem dX9_take_12 : decode cX9_take 12 = .ok (.iload_n 1, 1) := by decide +kernel
theorem dX9_take_13 : decode cX9_take 13 = .ok (.iconst 0, 1) := by decide +kernel
theorem dX9_take_14 : decode cX9_take 14 = .ok (.invokevirtual 94, 3) := by decide +kernel
theorem dX9_take_17 : decode cX9_take 17 = .ok (.putfield 117, 3) := by decide +kernel
theorem dX9_take_20 : decode cX9_take 20 = .ok (.aload_n 0, 1) := by decide +kernel
theorem dX9_take_21 : decode cX9_take 21 = .ok (.getfield 9, 3) := by decide +kernel
theorem dX9_take_24 : decode cX9_take 24 = .ok (.iload_n 1, 1) := by decide +kernel
theorem dX9_take_25 : decode cX9_take 25 = .ok (.iconst 4, 1) := by decide +kernel
theorem dX9_take_26 : decode cX9_take 26 = .ok (.invokestatic 91, 3) := by decide +kernel
theorem dX9_take_29 : decode cX9_take 29 = .ok (.aload_n 0, 1) := by decide +kernel
theorem dX9_take_30 : decode cX9_take 30 = .ok (.getfield 22, 3) := by decide +kernel
theorem dX9_take_33 : decode cX9_take 33 = .ok (.iconst 0, 1) := by decide +kernel
theorem dX9_take_34 : decode cX9_take 34 = .ok (.aload_n 0, 1) := by decide +kernel
theorem dX9_take_35 : decode cX9_take 35 = .ok (.getfield 114, 3) := by decide +kernel
theorem dX9_take_38 : decode cX9_take 38 = .ok (.invokestatic 53, 3) := by decide +kernel
theorem dX9_take_41 : decode cX9_take 41 = .ok (.return_, 1) := by decide +kernel
theorem dX9_give_0 : decode cX9_give 0 = .ok (.aload_n 0, 1) := by decide +kernel
theorem dX9_give_1 : decode cX9_give 1 = .ok (.getfield 9, 3) := by decide +kernel
theorem dX9_give_4 : decode cX9_give 4 = .ok (.iload_n 1, 1) := by decide +kernel
theorem dX9_give_5 : decode cX9_give 5 = .ok (.iconst 3, 1) := by decide +kernel
theorem dX9_give_6 : decode cX9_give 6 = .ok (.invokestatic 91, 3) := by decide +kernel
theorem dX9_give_9 : decode cX9_give 9 = .ok (.aload_n 0, 1) := by decide +kernel
theorem dX9_give_10 : decode cX9_give 10 = .ok (.getfield 114, 3) := by decide +kernel
theorem dX9_give_13 : decode cX9_give 13 = .ok (.iastore, 1) := by decide +kernel
theorem dX9_give_14 : decode cX9_give 14 = .ok (.aload_n 0, 1) := by decide +kernel
theorem dX9_give_15 : decode cX9_give 15 = .ok (.getfield 22, 3) := by decide +kernel
theorem dX9_give_18 : decode cX9_give 18 = .ok (.iconst 0, 1) := by decide +kernel
theorem dX9_give_19 : decode cX9_give 19 = .ok (.aload_n 0, 1) := by decide +kernel
theorem dX9_give_20 : decode cX9_give 20 = .ok (.getfield 9, 3) := by decide +kernel
theorem dX9_give_23 : decode cX9_give 23 = .ok (.iload_n 1, 1) := by decide +kernel
theorem dX9_give_24 : decode cX9_give 24 = .ok (.iconst 4, 1) := by decide +kernel
theorem dX9_give_25 : decode cX9_give 25 = .ok (.invokestatic 91, 3) := by decide +kernel
theorem dX9_give_28 : decode cX9_give 28 = .ok (.aload_n 0, 1) := by decide +kernel
theorem dX9_give_29 : decode cX9_give 29 = .ok (.getfield 114, 3) := by decide +kernel
theorem dX9_give_32 : decode cX9_give 32 = .ok (.invokestatic 53, 3) := by decide +kernel
theorem dX9_give_35 : decode cX9_give 35 = .ok (.return_, 1) := by decide +kernel
theorem dX9_legAt_0 : decode cX9_legAt 0 = .ok (.aload_n 0, 1) := by decide +kernel
theorem dX9_legAt_1 : decode cX9_legAt 1 = .ok (.getfield 22, 3) := by decide +kernel
theorem dX9_legAt_4 : decode cX9_legAt 4 = .ok (.iload_n 1, 1) := by decide +kernel
theorem dX9_legAt_5 : decode cX9_legAt 5 = .ok (.iaload, 1) := by decide +kernel
theorem dX9_legAt_6 : decode cX9_legAt 6 = .ok (.iconst 2, 1) := by decide +kernel
theorem dX9_legAt_7 : decode cX9_legAt 7 = .ok (.idiv, 1) := by decide +kernel
theorem dX9_legAt_8 : decode cX9_legAt 8 = .ok (.ireturn, 1) := by decide +kernel
theorem dX9_isFlown_0 : decode cX9_isFlown 0 = .ok (.aload_n 0, 1) := by decide +kernel
theorem dX9_isFlown_1 : decode cX9_isFlown 1 = .ok (.getfield 22, 3) := by decide +kernel
theorem dX9_isFlown_4 : decode cX9_isFlown 4 = .ok (.iload_n 1, 1) := by decide +kernel
theorem dX9_isFlown_5 : decode cX9_isFlown 5 = .ok (.iaload, 1) := by decide +kernel
theorem dX9_isFlown_6 : decode cX9_isFlown 6 = .ok (.iconst 2, 1) := by decide +kernel
theorem dX9_isFlown_7 : decode cX9_isFlown 7 = .ok (.irem, 1) := by decide +kernel
theorem dX9_isFlown_8 : decode cX9_isFlown 8 = .ok (.iconst 1, 1) := by decide +kernel
theorem dX9_isFlown_9 : decode cX9_isFlown 9 = .ok (.if_icmp .ne 7, 3) := by decide +kernel
theorem dX9_isFlown_12 : decode cX9_isFlown 12 = .ok (.iconst 1, 1) := by decide +kernel
theorem dX9_isFlown_13 : decode cX9_isFlown 13 = .ok (.goto 4, 3) := by decide +kernel
theorem dX9_isFlown_16 : decode cX9_isFlown 16 = .ok (.iconst 0, 1) := by decide +kernel
theorem dX9_isFlown_17 : decode cX9_isFlown 17 = .ok (.ireturn, 1) := by decide +kernel
theorem dX9_put_0 : decode cX9_put 0 = .ok (.aload_n 0, 1) := by decide +kernel
theorem dX9_put_1 : decode cX9_put 1 = .ok (.getfield 114, 3) := by decide +kernel
theorem dX9_put_4 : decode cX9_put 4 = .ok (.istore_n 3, 1) := by decide +kernel
theorem dX9_put_5 : decode cX9_put 5 = .ok (.iload_n 3, 1) := by decide +kernel
theorem dX9_put_6 : decode cX9_put 6 = .ok (.ifCond .le 76, 3) := by decide +kernel
theorem dX9_put_9 : decode cX9_put 9 = .ok (.aload_n 0, 1) := by decide +kernel
theorem dX9_put_10 : decode cX9_put 10 = .ok (.aload_n 0, 1) := by decide +kernel
theorem dX9_put_11 : decode cX9_put 11 = .ok (.iload_n 3, 1) := by decide +kernel
theorem dX9_put_12 : decode cX9_put 12 = .ok (.iconst 1, 1) := by decide +kernel
theorem dX9_put_13 : decode cX9_put 13 = .ok (.isub, 1) := by decide +kernel
theorem dX9_put_14 : decode cX9_put 14 = .ok (.invokevirtual 120, 3) := by decide +kernel
theorem dX9_put_17 : decode cX9_put 17 = .ok (.iconst 2, 1) := by decide +kernel
theorem dX9_put_18 : decode cX9_put 18 = .ok (.invokevirtual 63, 3) := by decide +kernel
theorem dX9_put_21 : decode cX9_put 21 = .ok (.aload_n 0, 1) := by decide +kernel
theorem dX9_put_22 : decode cX9_put 22 = .ok (.iload_n 1, 1) := by decide +kernel
theorem dX9_put_23 : decode cX9_put 23 = .ok (.iconst 2, 1) := by decide +kernel
theorem dX9_put_24 : decode cX9_put 24 = .ok (.invokevirtual 63, 3) := by decide +kernel
theorem dX9_put_27 : decode cX9_put 27 = .ok (.if_icmp .gt 35, 3) := by decide +kernel
theorem dX9_put_30 : decode cX9_put 30 = .ok (.aload_n 0, 1) := by decide +kernel
theorem dX9_put_31 : decode cX9_put 31 = .ok (.aload_n 0, 1) := by decide +kernel
theorem dX9_put_32 : decode cX9_put 32 = .ok (.iload_n 3, 1) := by decide +kernel
theorem dX9_put_33 : decode cX9_put 33 = .ok (.iconst 1, 1) := by decide +kernel
theorem dX9_put_34 : decode cX9_put 34 = .ok (.isub, 1) := by decide +kernel
theorem dX9_put_35 : decode cX9_put 35 = .ok (.invokevirtual 120, 3) := by decide +kernel
theorem dX9_put_38 : decode cX9_put 38 = .ok (.iconst 2, 1) := by decide +kernel
theorem dX9_put_39 : decode cX9_put 39 = .ok (.invokevirtual 63, 3) := by decide +kernel
theorem dX9_put_42 : decode cX9_put 42 = .ok (.aload_n 0, 1) := by decide +kernel
theorem dX9_put_43 : decode cX9_put 43 = .ok (.iload_n 1, 1) := by decide +kernel
theorem dX9_put_44 : decode cX9_put 44 = .ok (.iconst 2, 1) := by decide +kernel
theorem dX9_put_45 : decode cX9_put 45 = .ok (.invokevirtual 63, 3) := by decide +kernel
theorem dX9_put_48 : decode cX9_put 48 = .ok (.if_icmp .ne 34, 3) := by decide +kernel
theorem dX9_put_51 : decode cX9_put 51 = .ok (.aload_n 0, 1) := by decide +kernel
theorem dX9_put_52 : decode cX9_put 52 = .ok (.iload_n 3, 1) := by decide +kernel
theorem dX9_put_53 : decode cX9_put 53 = .ok (.iconst 1, 1) := by decide +kernel
theorem dX9_put_54 : decode cX9_put 54 = .ok (.isub, 1) := by decide +kernel
theorem dX9_put_55 : decode cX9_put 55 = .ok (.invokevirtual 120, 3) := by decide +kernel
theorem dX9_put_58 : decode cX9_put 58 = .ok (.iload_n 1, 1) := by decide +kernel
theorem dX9_put_59 : decode cX9_put 59 = .ok (.if_icmp .le 23, 3) := by decide +kernel
theorem dX9_put_62 : decode cX9_put 62 = .ok (.aload_n 0, 1) := by decide +kernel
theorem dX9_put_63 : decode cX9_put 63 = .ok (.getfield 22, 3) := by decide +kernel
theorem dX9_put_66 : decode cX9_put 66 = .ok (.iload_n 3, 1) := by decide +kernel
theorem dX9_put_67 : decode cX9_put 67 = .ok (.aload_n 0, 1) := by decide +kernel
theorem dX9_put_68 : decode cX9_put 68 = .ok (.getfield 22, 3) := by decide +kernel
theorem dX9_put_71 : decode cX9_put 71 = .ok (.iload_n 3, 1) := by decide +kernel
theorem dX9_put_72 : decode cX9_put 72 = .ok (.iconst 1, 1) := by decide +kernel
theorem dX9_put_73 : decode cX9_put 73 = .ok (.isub, 1) := by decide +kernel
theorem dX9_put_74 : decode cX9_put 74 = .ok (.iaload, 1) := by decide +kernel
theorem dX9_put_75 : decode cX9_put 75 = .ok (.iastore, 1) := by decide +kernel
theorem dX9_put_76 : decode cX9_put 76 = .ok (.iinc 3 (-1), 3) := by decide +kernel
theorem dX9_put_79 : decode cX9_put 79 = .ok (.goto (-74), 3) := by decide +kernel
theorem dX9_put_82 : decode cX9_put 82 = .ok (.aload_n 0, 1) := by decide +kernel
theorem dX9_put_83 : decode cX9_put 83 = .ok (.getfield 22, 3) := by decide +kernel
theorem dX9_put_86 : decode cX9_put 86 = .ok (.iload_n 3, 1) := by decide +kernel
theorem dX9_put_87 : decode cX9_put 87 = .ok (.iconst 2, 1) := by decide +kernel
theorem dX9_put_88 : decode cX9_put 88 = .ok (.iload_n 1, 1) := by decide +kernel
theorem dX9_put_89 : decode cX9_put 89 = .ok (.imul, 1) := by decide +kernel
theorem dX9_put_90 : decode cX9_put 90 = .ok (.iload_n 2, 1) := by decide +kernel
theorem dX9_put_91 : decode cX9_put 91 = .ok (.ifCond .eq 7, 3) := by decide +kernel
theorem dX9_put_94 : decode cX9_put 94 = .ok (.iconst 1, 1) := by decide +kernel
theorem dX9_put_95 : decode cX9_put 95 = .ok (.goto 4, 3) := by decide +kernel
theorem dX9_put_98 : decode cX9_put 98 = .ok (.iconst 0, 1) := by decide +kernel
theorem dX9_put_99 : decode cX9_put 99 = .ok (.iadd, 1) := by decide +kernel
theorem dX9_put_100 : decode cX9_put 100 = .ok (.iastore, 1) := by decide +kernel
theorem dX9_put_101 : decode cX9_put 101 = .ok (.aload_n 0, 1) := by decide +kernel
theorem dX9_put_102 : decode cX9_put 102 = .ok (.dup, 1) := by decide +kernel
theorem dX9_put_103 : decode cX9_put 103 = .ok (.getfield 114, 3) := by decide +kernel
theorem dX9_put_106 : decode cX9_put 106 = .ok (.iconst 1, 1) := by decide +kernel
theorem dX9_put_107 : decode cX9_put 107 = .ok (.iadd, 1) := by decide +kernel
theorem dX9_put_108 : decode cX9_put 108 = .ok (.putfield 114, 3) := by decide +kernel
theorem dX9_put_111 : decode cX9_put 111 = .ok (.iload_n 3, 1) := by decide +kernel
theorem dX9_put_112 : decode cX9_put 112 = .ok (.ireturn, 1) := by decide +kernel
theorem dX9_takeOut_0 : decode cX9_takeOut 0 = .ok (.aload_n 0, 1) := by decide +kernel
theorem dX9_takeOut_1 : decode cX9_takeOut 1 = .ok (.dup, 1) := by decide +kernel
theorem dX9_takeOut_2 : decode cX9_takeOut 2 = .ok (.getfield 114, 3) := by decide +kernel
theorem dX9_takeOut_5 : decode cX9_takeOut 5 = .ok (.iconst 1, 1) := by decide +kernel
theorem dX9_takeOut_6 : decode cX9_takeOut 6 = .ok (.isub, 1) := by decide +kernel
theorem dX9_takeOut_7 : decode cX9_takeOut 7 = .ok (.putfield 114, 3) := by decide +kernel
theorem dX9_takeOut_10 : decode cX9_takeOut 10 = .ok (.iload_n 1, 1) := by decide +kernel
theorem dX9_takeOut_11 : decode cX9_takeOut 11 = .ok (.istore_n 2, 1) := by decide +kernel
theorem dX9_takeOut_12 : decode cX9_takeOut 12 = .ok (.iload_n 2, 1) := by decide +kernel
theorem dX9_takeOut_13 : decode cX9_takeOut 13 = .ok (.aload_n 0, 1) := by decide +kernel
theorem dX9_takeOut_14 : decode cX9_takeOut 14 = .ok (.getfield 114, 3) := by decide +kernel
theorem dX9_takeOut_17 : decode cX9_takeOut 17 = .ok (.if_icmp .ge 23, 3) := by decide +kernel
theorem dX9_takeOut_20 : decode cX9_takeOut 20 = .ok (.aload_n 0, 1) := by decide +kernel
theorem dX9_takeOut_21 : decode cX9_takeOut 21 = .ok (.getfield 22, 3) := by decide +kernel
theorem dX9_takeOut_24 : decode cX9_takeOut 24 = .ok (.iload_n 2, 1) := by decide +kernel
theorem dX9_takeOut_25 : decode cX9_takeOut 25 = .ok (.aload_n 0, 1) := by decide +kernel
theorem dX9_takeOut_26 : decode cX9_takeOut 26 = .ok (.getfield 22, 3) := by decide +kernel
theorem dX9_takeOut_29 : decode cX9_takeOut 29 = .ok (.iload_n 2, 1) := by decide +kernel
theorem dX9_takeOut_30 : decode cX9_takeOut 30 = .ok (.iconst 1, 1) := by decide +kernel
theorem dX9_takeOut_31 : decode cX9_takeOut 31 = .ok (.iadd, 1) := by decide +kernel
theorem dX9_takeOut_32 : decode cX9_takeOut 32 = .ok (.iaload, 1) := by decide +kernel
theorem dX9_takeOut_33 : decode cX9_takeOut 33 = .ok (.iastore, 1) := by decide +kernel
theorem dX9_takeOut_34 : decode cX9_takeOut 34 = .ok (.iinc 2 1, 3) := by decide +kernel
theorem dX9_takeOut_37 : decode cX9_takeOut 37 = .ok (.goto (-25), 3) := by decide +kernel
theorem dX9_takeOut_40 : decode cX9_takeOut 40 = .ok (.return_, 1) := by decide +kernel
theorem dX9_gapBefore_0 : decode cX9_gapBefore 0 = .ok (.aload_n 0, 1) := by decide +kernel
theorem dX9_gapBefore_1 : decode cX9_gapBefore 1 = .ok (.aload_n 0, 1) := by decide +kernel
theorem dX9_gapBefore_2 : decode cX9_gapBefore 2 = .ok (.iload_n 1, 1) := by decide +kernel
theorem dX9_gapBefore_3 : decode cX9_gapBefore 3 = .ok (.invokevirtual 120, 3) := by decide +kernel
theorem dX9_gapBefore_6 : decode cX9_gapBefore 6 = .ok (.iconst 2, 1) := by decide +kernel
theorem dX9_gapBefore_7 : decode cX9_gapBefore 7 = .ok (.invokevirtual 63, 3) := by decide +kernel
theorem dX9_gapBefore_10 : decode cX9_gapBefore 10 = .ok (.aload_n 0, 1) := by decide +kernel
theorem dX9_gapBefore_11 : decode cX9_gapBefore 11 = .ok (.aload_n 0, 1) := by decide +kernel
theorem dX9_gapBefore_12 : decode cX9_gapBefore 12 = .ok (.iload_n 1, 1) := by decide +kernel
theorem dX9_gapBefore_13 : decode cX9_gapBefore 13 = .ok (.iconst 1, 1) := by decide +kernel
theorem dX9_gapBefore_14 : decode cX9_gapBefore 14 = .ok (.isub, 1) := by decide +kernel
theorem dX9_gapBefore_15 : decode cX9_gapBefore 15 = .ok (.invokevirtual 120, 3) := by decide +kernel
theorem dX9_gapBefore_18 : decode cX9_gapBefore 18 = .ok (.iconst 3, 1) := by decide +kernel
theorem dX9_gapBefore_19 : decode cX9_gapBefore 19 = .ok (.invokevirtual 63, 3) := by decide +kernel
theorem dX9_gapBefore_22 : decode cX9_gapBefore 22 = .ok (.isub, 1) := by decide +kernel
theorem dX9_gapBefore_23 : decode cX9_gapBefore 23 = .ok (.ireturn, 1) := by decide +kernel
theorem dX9_beginsDuty_0 : decode cX9_beginsDuty 0 = .ok (.iload_n 1, 1) := by decide +kernel
theorem dX9_beginsDuty_1 : decode cX9_beginsDuty 1 = .ok (.ifCond .eq 17, 3) := by decide +kernel
theorem dX9_beginsDuty_4 : decode cX9_beginsDuty 4 = .ok (.aload_n 0, 1) := by decide +kernel
theorem dX9_beginsDuty_5 : decode cX9_beginsDuty 5 = .ok (.iload_n 1, 1) := by decide +kernel
theorem dX9_beginsDuty_6 : decode cX9_beginsDuty 6 = .ok (.invokevirtual 123, 3) := by decide +kernel
theorem dX9_beginsDuty_9 : decode cX9_beginsDuty 9 = .ok (.aload_n 0, 1) := by decide +kernel
theorem dX9_beginsDuty_10 : decode cX9_beginsDuty 10 = .ok (.getfield 9, 3) := by decide +kernel
theorem dX9_beginsDuty_13 : decode cX9_beginsDuty 13 = .ok (.iconst 3, 1) := by decide +kernel
theorem dX9_beginsDuty_14 : decode cX9_beginsDuty 14 = .ok (.iaload, 1) := by decide +kernel
theorem dX9_beginsDuty_15 : decode cX9_beginsDuty 15 = .ok (.if_icmp .lt 7, 3) := by decide +kernel
theorem dX9_beginsDuty_18 : decode cX9_beginsDuty 18 = .ok (.iconst 1, 1) := by decide +kernel
theorem dX9_beginsDuty_19 : decode cX9_beginsDuty 19 = .ok (.goto 4, 3) := by decide +kernel
theorem dX9_beginsDuty_22 : decode cX9_beginsDuty 22 = .ok (.iconst 0, 1) := by decide +kernel
theorem dX9_beginsDuty_23 : decode cX9_beginsDuty 23 = .ok (.ireturn, 1) := by decide +kernel
theorem dX9_dutyEnd_0 : decode cX9_dutyEnd 0 = .ok (.iload_n 1, 1) := by decide +kernel
theorem dX9_dutyEnd_1 : decode cX9_dutyEnd 1 = .ok (.iconst 1, 1) := by decide +kernel
theorem dX9_dutyEnd_2 : decode cX9_dutyEnd 2 = .ok (.iadd, 1) := by decide +kernel
theorem dX9_dutyEnd_3 : decode cX9_dutyEnd 3 = .ok (.istore_n 2, 1) := by decide +kernel
theorem dX9_dutyEnd_4 : decode cX9_dutyEnd 4 = .ok (.iload_n 2, 1) := by decide +kernel
theorem dX9_dutyEnd_5 : decode cX9_dutyEnd 5 = .ok (.aload_n 0, 1) := by decide +kernel
theorem dX9_dutyEnd_6 : decode cX9_dutyEnd 6 = .ok (.getfield 114, 3) := by decide +kernel
theorem dX9_dutyEnd_9 : decode cX9_dutyEnd 9 = .ok (.if_icmp .ge 17, 3) := by decide +kernel
theorem dX9_dutyEnd_12 : decode cX9_dutyEnd 12 = .ok (.aload_n 0, 1) := by decide +kernel
theorem dX9_dutyEnd_13 : decode cX9_dutyEnd 13 = .ok (.iload_n 2, 1) := by decide +kernel
theorem dX9_dutyEnd_14 : decode cX9_dutyEnd 14 = .ok (.invokevirtual 126, 3) := by decide +kernel
theorem dX9_dutyEnd_17 : decode cX9_dutyEnd 17 = .ok (.ifCond .ne 9, 3) := by decide +kernel
theorem dX9_dutyEnd_20 : decode cX9_dutyEnd 20 = .ok (.iinc 2 1, 3) := by decide +kernel
theorem dX9_dutyEnd_23 : decode cX9_dutyEnd 23 = .ok (.goto (-19), 3) := by decide +kernel
theorem dX9_dutyEnd_26 : decode cX9_dutyEnd 26 = .ok (.iload_n 2, 1) := by decide +kernel
theorem dX9_dutyEnd_27 : decode cX9_dutyEnd 27 = .ok (.ireturn, 1) := by decide +kernel
theorem dX9_dutyMinutes_0 : decode cX9_dutyMinutes 0 = .ok (.aload_n 0, 1) := by decide +kernel
theorem dX9_dutyMinutes_1 : decode cX9_dutyMinutes 1 = .ok (.aload_n 0, 1) := by decide +kernel
theorem dX9_dutyMinutes_2 : decode cX9_dutyMinutes 2 = .ok (.aload_n 0, 1) := by decide +kernel
theorem dX9_dutyMinutes_3 : decode cX9_dutyMinutes 3 = .ok (.iload_n 1, 1) := by decide +kernel
theorem dX9_dutyMinutes_4 : decode cX9_dutyMinutes 4 = .ok (.invokevirtual 129, 3) := by decide +kernel
theorem dX9_dutyMinutes_7 : decode cX9_dutyMinutes 7 = .ok (.iconst 1, 1) := by decide +kernel
theorem dX9_dutyMinutes_8 : decode cX9_dutyMinutes 8 = .ok (.isub, 1) := by decide +kernel
theorem dX9_dutyMinutes_9 : decode cX9_dutyMinutes 9 = .ok (.invokevirtual 120, 3) := by decide +kernel
theorem dX9_dutyMinutes_12 : decode cX9_dutyMinutes 12 = .ok (.iconst 3, 1) := by decide +kernel
theorem dX9_dutyMinutes_13 : decode cX9_dutyMinutes 13 = .ok (.invokevirtual 63, 3) := by decide +kernel
theorem dX9_dutyMinutes_16 : decode cX9_dutyMinutes 16 = .ok (.aload_n 0, 1) := by decide +kernel
theorem dX9_dutyMinutes_17 : decode cX9_dutyMinutes 17 = .ok (.aload_n 0, 1) := by decide +kernel
theorem dX9_dutyMinutes_18 : decode cX9_dutyMinutes 18 = .ok (.iload_n 1, 1) := by decide +kernel
theorem dX9_dutyMinutes_19 : decode cX9_dutyMinutes 19 = .ok (.invokevirtual 120, 3) := by decide +kernel
theorem dX9_dutyMinutes_22 : decode cX9_dutyMinutes 22 = .ok (.iconst 2, 1) := by decide +kernel
theorem dX9_dutyMinutes_23 : decode cX9_dutyMinutes 23 = .ok (.invokevirtual 63, 3) := by decide +kernel
theorem dX9_dutyMinutes_26 : decode cX9_dutyMinutes 26 = .ok (.isub, 1) := by decide +kernel
theorem dX9_dutyMinutes_27 : decode cX9_dutyMinutes 27 = .ok (.ireturn, 1) := by decide +kernel
theorem dX9_flownFrom_0 : decode cX9_flownFrom 0 = .ok (.iconst 0, 1) := by decide +kernel
theorem dX9_flownFrom_1 : decode cX9_flownFrom 1 = .ok (.istore_n 3, 1) := by decide +kernel
theorem dX9_flownFrom_2 : decode cX9_flownFrom 2 = .ok (.iload_n 1, 1) := by decide +kernel
theorem dX9_flownFrom_3 : decode cX9_flownFrom 3 = .ok (.istore 4, 2) := by decide +kernel
theorem dX9_flownFrom_5 : decode cX9_flownFrom 5 = .ok (.iload 4, 2) := by decide +kernel
theorem dX9_flownFrom_7 : decode cX9_flownFrom 7 = .ok (.iload_n 2, 1) := by decide +kernel
theorem dX9_flownFrom_8 : decode cX9_flownFrom 8 = .ok (.if_icmp .ge 35, 3) := by decide +kernel
theorem dX9_flownFrom_11 : decode cX9_flownFrom 11 = .ok (.iload_n 3, 1) := by decide +kernel
theorem dX9_flownFrom_12 : decode cX9_flownFrom 12 = .ok (.aload_n 0, 1) := by decide +kernel
theorem dX9_flownFrom_13 : decode cX9_flownFrom 13 = .ok (.iload 4, 2) := by decide +kernel
theorem dX9_flownFrom_15 : decode cX9_flownFrom 15 = .ok (.invokevirtual 132, 3) := by decide +kernel
theorem dX9_flownFrom_18 : decode cX9_flownFrom 18 = .ok (.ifCond .eq 16, 3) := by decide +kernel
theorem dX9_flownFrom_21 : decode cX9_flownFrom 21 = .ok (.aload_n 0, 1) := by decide +kernel
theorem dX9_flownFrom_22 : decode cX9_flownFrom 22 = .ok (.aload_n 0, 1) := by decide +kernel
theorem dX9_flownFrom_23 : decode cX9_flownFrom 23 = .ok (.iload 4, 2) := by decide +kernel
theorem dX9_flownFrom_25 : decode cX9_flownFrom 25 = .ok (.invokevirtual 120, 3) := by decide +kernel
theorem dX9_flownFrom_28 : decode cX9_flownFrom 28 = .ok (.invokevirtual 135, 3) := by decide +kernel
theorem dX9_flownFrom_31 : decode cX9_flownFrom 31 = .ok (.goto 4, 3) := by decide +kernel
theorem dX9_flownFrom_34 : decode cX9_flownFrom 34 = .ok (.iconst 0, 1) := by decide +kernel
theorem dX9_flownFrom_35 : decode cX9_flownFrom 35 = .ok (.iadd, 1) := by decide +kernel
theorem dX9_flownFrom_36 : decode cX9_flownFrom 36 = .ok (.istore_n 3, 1) := by decide +kernel
theorem dX9_flownFrom_37 : decode cX9_flownFrom 37 = .ok (.iinc 4 1, 3) := by decide +kernel
theorem dX9_flownFrom_40 : decode cX9_flownFrom 40 = .ok (.goto (-35), 3) := by decide +kernel
theorem dX9_flownFrom_43 : decode cX9_flownFrom 43 = .ok (.iload_n 3, 1) := by decide +kernel
theorem dX9_flownFrom_44 : decode cX9_flownFrom 44 = .ok (.ireturn, 1) := by decide +kernel
theorem dX9_flownWithin_0 : decode cX9_flownWithin 0 = .ok (.iconst 0, 1) := by decide +kernel
theorem dX9_flownWithin_1 : decode cX9_flownWithin 1 = .ok (.istore_n 3, 1) := by decide +kernel
theorem dX9_flownWithin_2 : decode cX9_flownWithin 2 = .ok (.iconst 0, 1) := by decide +kernel
theorem dX9_flownWithin_3 : decode cX9_flownWithin 3 = .ok (.istore 4, 2) := by decide +kernel
theorem dX9_flownWithin_5 : decode cX9_flownWithin 5 = .ok (.iload 4, 2) := by decide +kernel
theorem dX9_flownWithin_7 : decode cX9_flownWithin 7 = .ok (.aload_n 0, 1) := by decide +kernel
theorem dX9_flownWithin_8 : decode cX9_flownWithin 8 = .ok (.getfield 114, 3) := by decide +kernel
theorem dX9_flownWithin_11 : decode cX9_flownWithin 11 = .ok (.if_icmp .ge 70, 3) := by decide +kernel
theorem dX9_flownWithin_14 : decode cX9_flownWithin 14 = .ok (.iload_n 1, 1) := by decide +kernel
theorem dX9_flownWithin_15 : decode cX9_flownWithin 15 = .ok (.aload_n 0, 1) := by decide +kernel
theorem dX9_flownWithin_16 : decode cX9_flownWithin 16 = .ok (.aload_n 0, 1) := by decide +kernel
theorem dX9_flownWithin_17 : decode cX9_flownWithin 17 = .ok (.iload 4, 2) := by decide +kernel
theorem dX9_flownWithin_19 : decode cX9_flownWithin 19 = .ok (.invokevirtual 120, 3) := by decide +kernel
theorem dX9_flownWithin_22 : decode cX9_flownWithin 22 = .ok (.iconst 2, 1) := by decide +kernel
theorem dX9_flownWithin_23 : decode cX9_flownWithin 23 = .ok (.invokevirtual 63, 3) := by decide +kernel
theorem dX9_flownWithin_26 : decode cX9_flownWithin 26 = .ok (.invokestatic 138, 3) := by decide +kernel
theorem dX9_flownWithin_29 : decode cX9_flownWithin 29 = .ok (.istore 5, 2) := by decide +kernel
theorem dX9_flownWithin_31 : decode cX9_flownWithin 31 = .ok (.iload_n 1, 1) := by decide +kernel
theorem dX9_flownWithin_32 : decode cX9_flownWithin 32 = .ok (.iload_n 2, 1) := by decide +kernel
theorem dX9_flownWithin_33 : decode cX9_flownWithin 33 = .ok (.iadd, 1) := by decide +kernel
theorem dX9_flownWithin_34 : decode cX9_flownWithin 34 = .ok (.aload_n 0, 1) := by decide +kernel
theorem dX9_flownWithin_35 : decode cX9_flownWithin 35 = .ok (.aload_n 0, 1) := by decide +kernel
theorem dX9_flownWithin_36 : decode cX9_flownWithin 36 = .ok (.iload 4, 2) := by decide +kernel
theorem dX9_flownWithin_38 : decode cX9_flownWithin 38 = .ok (.invokevirtual 120, 3) := by decide +kernel
theorem dX9_flownWithin_41 : decode cX9_flownWithin 41 = .ok (.iconst 3, 1) := by decide +kernel
theorem dX9_flownWithin_42 : decode cX9_flownWithin 42 = .ok (.invokevirtual 63, 3) := by decide +kernel
theorem dX9_flownWithin_45 : decode cX9_flownWithin 45 = .ok (.invokestatic 79, 3) := by decide +kernel
theorem dX9_flownWithin_48 : decode cX9_flownWithin 48 = .ok (.istore 6, 2) := by decide +kernel
theorem dX9_flownWithin_50 : decode cX9_flownWithin 50 = .ok (.iload_n 3, 1) := by decide +kernel
theorem dX9_flownWithin_51 : decode cX9_flownWithin 51 = .ok (.aload_n 0, 1) := by decide +kernel
theorem dX9_flownWithin_52 : decode cX9_flownWithin 52 = .ok (.iload 4, 2) := by decide +kernel
theorem dX9_flownWithin_54 : decode cX9_flownWithin 54 = .ok (.invokevirtual 132, 3) := by decide +kernel
theorem dX9_flownWithin_57 : decode cX9_flownWithin 57 = .ok (.ifCond .eq 15, 3) := by decide +kernel
theorem dX9_flownWithin_60 : decode cX9_flownWithin 60 = .ok (.iconst 0, 1) := by decide +kernel
theorem dX9_flownWithin_61 : decode cX9_flownWithin 61 = .ok (.iload 6, 2) := by decide +kernel
theorem dX9_flownWithin_63 : decode cX9_flownWithin 63 = .ok (.iload 5, 2) := by decide +kernel
theorem dX9_flownWithin_65 : decode cX9_flownWithin 65 = .ok (.isub, 1) := by decide +kernel
theorem dX9_flownWithin_66 : decode cX9_flownWithin 66 = .ok (.invokestatic 138, 3) := by decide +kernel
theorem dX9_flownWithin_69 : decode cX9_flownWithin 69 = .ok (.goto 4, 3) := by decide +kernel
theorem dX9_flownWithin_72 : decode cX9_flownWithin 72 = .ok (.iconst 0, 1) := by decide +kernel
theorem dX9_flownWithin_73 : decode cX9_flownWithin 73 = .ok (.iadd, 1) := by decide +kernel
theorem dX9_flownWithin_74 : decode cX9_flownWithin 74 = .ok (.istore_n 3, 1) := by decide +kernel
theorem dX9_flownWithin_75 : decode cX9_flownWithin 75 = .ok (.iinc 4 1, 3) := by decide +kernel
theorem dX9_flownWithin_78 : decode cX9_flownWithin 78 = .ok (.goto (-73), 3) := by decide +kernel
theorem dX9_flownWithin_81 : decode cX9_flownWithin 81 = .ok (.iload_n 3, 1) := by decide +kernel
theorem dX9_flownWithin_82 : decode cX9_flownWithin 82 = .ok (.ireturn, 1) := by decide +kernel
theorem dX9_violates_0 : decode cX9_violates 0 = .ok (.iload_n 1, 1) := by decide +kernel
theorem dX9_violates_1 : decode cX9_violates 1 = .ok (.tableswitch 221 1 6 #[39, 57, 99, 129, 157, 190], 39) := by decide +kernel
theorem dX9_violates_40 : decode cX9_violates 40 = .ok (.iload_n 2, 1) := by decide +kernel
theorem dX9_violates_41 : decode cX9_violates 41 = .ok (.ifCond .le 15, 3) := by decide +kernel
theorem dX9_violates_44 : decode cX9_violates 44 = .ok (.aload_n 0, 1) := by decide +kernel
theorem dX9_violates_45 : decode cX9_violates 45 = .ok (.iload_n 2, 1) := by decide +kernel
theorem dX9_violates_46 : decode cX9_violates 46 = .ok (.invokevirtual 123, 3) := by decide +kernel
theorem dX9_violates_49 : decode cX9_violates 49 = .ok (.ifCond .ge 7, 3) := by decide +kernel
theorem dX9_violates_52 : decode cX9_violates 52 = .ok (.iconst 1, 1) := by decide +kernel
theorem dX9_violates_53 : decode cX9_violates 53 = .ok (.goto 4, 3) := by decide +kernel
theorem dX9_violates_56 : decode cX9_violates 56 = .ok (.iconst 0, 1) := by decide +kernel
theorem dX9_violates_57 : decode cX9_violates 57 = .ok (.ireturn, 1) := by decide +kernel
theorem dX9_violates_58 : decode cX9_violates 58 = .ok (.aload_n 0, 1) := by decide +kernel
theorem dX9_violates_59 : decode cX9_violates 59 = .ok (.aload_n 0, 1) := by decide +kernel
theorem dX9_violates_60 : decode cX9_violates 60 = .ok (.iload_n 2, 1) := by decide +kernel
theorem dX9_violates_61 : decode cX9_violates 61 = .ok (.invokevirtual 120, 3) := by decide +kernel
theorem dX9_violates_64 : decode cX9_violates 64 = .ok (.iconst 0, 1) := by decide +kernel
theorem dX9_violates_65 : decode cX9_violates 65 = .ok (.invokevirtual 63, 3) := by decide +kernel
theorem dX9_violates_68 : decode cX9_violates 68 = .ok (.iload_n 2, 1) := by decide +kernel
theorem dX9_violates_69 : decode cX9_violates 69 = .ok (.ifCond .ne 10, 3) := by decide +kernel
theorem dX9_violates_72 : decode cX9_violates 72 = .ok (.aload_n 0, 1) := by decide +kernel
theorem dX9_violates_73 : decode cX9_violates 73 = .ok (.getfield 117, 3) := by decide +kernel
theorem dX9_violates_76 : decode cX9_violates 76 = .ok (.goto 15, 3) := by decide +kernel
theorem dX9_violates_79 : decode cX9_violates 79 = .ok (.aload_n 0, 1) := by decide +kernel
theorem dX9_violates_80 : decode cX9_violates 80 = .ok (.aload_n 0, 1) := by decide +kernel
theorem dX9_violates_81 : decode cX9_violates 81 = .ok (.iload_n 2, 1) := by decide +kernel
theorem dX9_violates_82 : decode cX9_violates 82 = .ok (.iconst 1, 1) := by decide +kernel
theorem dX9_violates_83 : decode cX9_violates 83 = .ok (.isub, 1) := by decide +kernel
theorem dX9_violates_84 : decode cX9_violates 84 = .ok (.invokevirtual 120, 3) := by decide +kernel
theorem dX9_violates_87 : decode cX9_violates 87 = .ok (.iconst 1, 1) := by decide +kernel
theorem dX9_violates_88 : decode cX9_violates 88 = .ok (.invokevirtual 63, 3) := by decide +kernel
theorem dX9_violates_91 : decode cX9_violates 91 = .ok (.if_icmp .eq 7, 3) := by decide +kernel
theorem dX9_violates_94 : decode cX9_violates 94 = .ok (.iconst 1, 1) := by decide +kernel
theorem dX9_violates_95 : decode cX9_violates 95 = .ok (.goto 4, 3) := by decide +kernel
theorem dX9_violates_98 : decode cX9_violates 98 = .ok (.iconst 0, 1) := by decide +kernel
theorem dX9_violates_99 : decode cX9_violates 99 = .ok (.ireturn, 1) := by decide +kernel
theorem dX9_violates_100 : decode cX9_violates 100 = .ok (.iload_n 2, 1) := by decide +kernel
theorem dX9_violates_101 : decode cX9_violates 101 = .ok (.ifCond .le 27, 3) := by decide +kernel
theorem dX9_violates_104 : decode cX9_violates 104 = .ok (.aload_n 0, 1) := by decide +kernel
theorem dX9_violates_105 : decode cX9_violates 105 = .ok (.iload_n 2, 1) := by decide +kernel
theorem dX9_violates_106 : decode cX9_violates 106 = .ok (.invokevirtual 123, 3) := by decide +kernel
theorem dX9_violates_109 : decode cX9_violates 109 = .ok (.iconst 0, 1) := by decide +kernel
theorem dX9_violates_110 : decode cX9_violates 110 = .ok (.aload_n 0, 1) := by decide +kernel
theorem dX9_violates_111 : decode cX9_violates 111 = .ok (.getfield 9, 3) := by decide +kernel
theorem dX9_violates_114 : decode cX9_violates 114 = .ok (.iconst 2, 1) := by decide +kernel
theorem dX9_violates_115 : decode cX9_violates 115 = .ok (.iaload, 1) := by decide +kernel
theorem dX9_violates_116 : decode cX9_violates 116 = .ok (.iconst 1, 1) := by decide +kernel
theorem dX9_violates_117 : decode cX9_violates 117 = .ok (.isub, 1) := by decide +kernel
theorem dX9_violates_118 : decode cX9_violates 118 = .ok (.invokestatic 59, 3) := by decide +kernel
theorem dX9_violates_121 : decode cX9_violates 121 = .ok (.ifCond .eq 7, 3) := by decide +kernel
theorem dX9_violates_124 : decode cX9_violates 124 = .ok (.iconst 1, 1) := by decide +kernel
theorem dX9_violates_125 : decode cX9_violates 125 = .ok (.goto 4, 3) := by decide +kernel
theorem dX9_violates_128 : decode cX9_violates 128 = .ok (.iconst 0, 1) := by decide +kernel
theorem dX9_violates_129 : decode cX9_violates 129 = .ok (.ireturn, 1) := by decide +kernel
theorem dX9_violates_130 : decode cX9_violates 130 = .ok (.aload_n 0, 1) := by decide +kernel
theorem dX9_violates_131 : decode cX9_violates 131 = .ok (.iload_n 2, 1) := by decide +kernel
theorem dX9_violates_132 : decode cX9_violates 132 = .ok (.invokevirtual 126, 3) := by decide +kernel
theorem dX9_violates_135 : decode cX9_violates 135 = .ok (.ifCond .eq 21, 3) := by decide +kernel
theorem dX9_violates_138 : decode cX9_violates 138 = .ok (.aload_n 0, 1) := by decide +kernel
theorem dX9_violates_139 : decode cX9_violates 139 = .ok (.iload_n 2, 1) := by decide +kernel
theorem dX9_violates_140 : decode cX9_violates 140 = .ok (.invokevirtual 141, 3) := by decide +kernel
theorem dX9_violates_143 : decode cX9_violates 143 = .ok (.aload_n 0, 1) := by decide +kernel
theorem dX9_violates_144 : decode cX9_violates 144 = .ok (.getfield 9, 3) := by decide +kernel
theorem dX9_violates_147 : decode cX9_violates 147 = .ok (.iconst 4, 1) := by decide +kernel
theorem dX9_violates_148 : decode cX9_violates 148 = .ok (.iaload, 1) := by decide +kernel
theorem dX9_violates_149 : decode cX9_violates 149 = .ok (.if_icmp .le 7, 3) := by decide +kernel
theorem dX9_violates_152 : decode cX9_violates 152 = .ok (.iconst 1, 1) := by decide +kernel
theorem dX9_violates_153 : decode cX9_violates 153 = .ok (.goto 4, 3) := by decide +kernel
theorem dX9_violates_156 : decode cX9_violates 156 = .ok (.iconst 0, 1) := by decide +kernel
theorem dX9_violates_157 : decode cX9_violates 157 = .ok (.ireturn, 1) := by decide +kernel
theorem dX9_violates_158 : decode cX9_violates 158 = .ok (.aload_n 0, 1) := by decide +kernel
theorem dX9_violates_159 : decode cX9_violates 159 = .ok (.iload_n 2, 1) := by decide +kernel
theorem dX9_violates_160 : decode cX9_violates 160 = .ok (.invokevirtual 126, 3) := by decide +kernel
theorem dX9_violates_163 : decode cX9_violates 163 = .ok (.ifCond .eq 26, 3) := by decide +kernel
theorem dX9_violates_166 : decode cX9_violates 166 = .ok (.aload_n 0, 1) := by decide +kernel
theorem dX9_violates_167 : decode cX9_violates 167 = .ok (.iload_n 2, 1) := by decide +kernel
theorem dX9_violates_168 : decode cX9_violates 168 = .ok (.aload_n 0, 1) := by decide +kernel
theorem dX9_violates_169 : decode cX9_violates 169 = .ok (.iload_n 2, 1) := by decide +kernel
theorem dX9_violates_170 : decode cX9_violates 170 = .ok (.invokevirtual 129, 3) := by decide +kernel
theorem dX9_violates_173 : decode cX9_violates 173 = .ok (.invokevirtual 144, 3) := by decide +kernel
theorem dX9_violates_176 : decode cX9_violates 176 = .ok (.aload_n 0, 1) := by decide +kernel
theorem dX9_violates_177 : decode cX9_violates 177 = .ok (.getfield 9, 3) := by decide +kernel
theorem dX9_violates_180 : decode cX9_violates 180 = .ok (.iconst 5, 1) := by decide +kernel
theorem dX9_violates_181 : decode cX9_violates 181 = .ok (.iaload, 1) := by decide +kernel
theorem dX9_violates_182 : decode cX9_violates 182 = .ok (.if_icmp .le 7, 3) := by decide +kernel
theorem dX9_violates_185 : decode cX9_violates 185 = .ok (.iconst 1, 1) := by decide +kernel
theorem dX9_violates_186 : decode cX9_violates 186 = .ok (.goto 4, 3) := by decide +kernel
theorem dX9_violates_189 : decode cX9_violates 189 = .ok (.iconst 0, 1) := by decide +kernel
theorem dX9_violates_190 : decode cX9_violates 190 = .ok (.ireturn, 1) := by decide +kernel
theorem dX9_violates_191 : decode cX9_violates 191 = .ok (.aload_n 0, 1) := by decide +kernel
theorem dX9_violates_192 : decode cX9_violates 192 = .ok (.iload_n 2, 1) := by decide +kernel
theorem dX9_violates_193 : decode cX9_violates 193 = .ok (.invokevirtual 126, 3) := by decide +kernel
theorem dX9_violates_196 : decode cX9_violates 196 = .ok (.ifCond .eq 24, 3) := by decide +kernel
theorem dX9_violates_199 : decode cX9_violates 199 = .ok (.aload_n 0, 1) := by decide +kernel
theorem dX9_violates_200 : decode cX9_violates 200 = .ok (.iload_n 2, 1) := by decide +kernel
theorem dX9_violates_201 : decode cX9_violates 201 = .ok (.invokevirtual 129, 3) := by decide +kernel
theorem dX9_violates_204 : decode cX9_violates 204 = .ok (.iload_n 2, 1) := by decide +kernel
theorem dX9_violates_205 : decode cX9_violates 205 = .ok (.isub, 1) := by decide +kernel
theorem dX9_violates_206 : decode cX9_violates 206 = .ok (.aload_n 0, 1) := by decide +kernel
theorem dX9_violates_207 : decode cX9_violates 207 = .ok (.getfield 9, 3) := by decide +kernel
theorem dX9_violates_210 : decode cX9_violates 210 = .ok (.bipush 6, 2) := by decide +kernel
theorem dX9_violates_212 : decode cX9_violates 212 = .ok (.iaload, 1) := by decide +kernel
theorem dX9_violates_213 : decode cX9_violates 213 = .ok (.if_icmp .le 7, 3) := by decide +kernel
theorem dX9_violates_216 : decode cX9_violates 216 = .ok (.iconst 1, 1) := by decide +kernel
theorem dX9_violates_217 : decode cX9_violates 217 = .ok (.goto 4, 3) := by decide +kernel
theorem dX9_violates_220 : decode cX9_violates 220 = .ok (.iconst 0, 1) := by decide +kernel
theorem dX9_violates_221 : decode cX9_violates 221 = .ok (.ireturn, 1) := by decide +kernel
theorem dX9_violates_222 : decode cX9_violates 222 = .ok (.aload_n 0, 1) := by decide +kernel
theorem dX9_violates_223 : decode cX9_violates 223 = .ok (.iload_n 2, 1) := by decide +kernel
theorem dX9_violates_224 : decode cX9_violates 224 = .ok (.invokevirtual 132, 3) := by decide +kernel
theorem dX9_violates_227 : decode cX9_violates 227 = .ok (.ifCond .eq 34, 3) := by decide +kernel
theorem dX9_violates_230 : decode cX9_violates 230 = .ok (.aload_n 0, 1) := by decide +kernel
theorem dX9_violates_231 : decode cX9_violates 231 = .ok (.aload_n 0, 1) := by decide +kernel
theorem dX9_violates_232 : decode cX9_violates 232 = .ok (.aload_n 0, 1) := by decide +kernel
theorem dX9_violates_233 : decode cX9_violates 233 = .ok (.iload_n 2, 1) := by decide +kernel
theorem dX9_violates_234 : decode cX9_violates 234 = .ok (.invokevirtual 120, 3) := by decide +kernel
theorem dX9_violates_237 : decode cX9_violates 237 = .ok (.iconst 2, 1) := by decide +kernel
theorem dX9_violates_238 : decode cX9_violates 238 = .ok (.invokevirtual 63, 3) := by decide +kernel
theorem dX9_violates_241 : decode cX9_violates 241 = .ok (.sipush 1440, 3) := by decide +kernel
theorem dX9_violates_244 : decode cX9_violates 244 = .ok (.invokevirtual 147, 3) := by decide +kernel
theorem dX9_violates_247 : decode cX9_violates 247 = .ok (.aload_n 0, 1) := by decide +kernel
theorem dX9_violates_248 : decode cX9_violates 248 = .ok (.getfield 9, 3) := by decide +kernel
theorem dX9_violates_251 : decode cX9_violates 251 = .ok (.bipush 7, 2) := by decide +kernel
theorem dX9_violates_253 : decode cX9_violates 253 = .ok (.iaload, 1) := by decide +kernel
theorem dX9_violates_254 : decode cX9_violates 254 = .ok (.if_icmp .le 7, 3) := by decide +kernel
theorem dX9_violates_257 : decode cX9_violates 257 = .ok (.iconst 1, 1) := by decide +kernel
theorem dX9_violates_258 : decode cX9_violates 258 = .ok (.goto 4, 3) := by decide +kernel
theorem dX9_violates_261 : decode cX9_violates 261 = .ok (.iconst 0, 1) := by decide +kernel
theorem dX9_violates_262 : decode cX9_violates 262 = .ok (.ireturn, 1) := by decide +kernel
theorem dX9_violationAt_0 : decode cX9_violationAt 0 = .ok (.iload_n 1, 1) := by decide +kernel
theorem dX9_violationAt_1 : decode cX9_violationAt 1 = .ok (.istore_n 2, 1) := by decide +kernel
theorem dX9_violationAt_2 : decode cX9_violationAt 2 = .ok (.iconst 1, 1) := by decide +kernel
theorem dX9_violationAt_3 : decode cX9_violationAt 3 = .ok (.istore_n 3, 1) := by decide +kernel
theorem dX9_violationAt_4 : decode cX9_violationAt 4 = .ok (.iload_n 3, 1) := by decide +kernel
theorem dX9_violationAt_5 : decode cX9_violationAt 5 = .ok (.bipush 7, 2) := by decide +kernel
theorem dX9_violationAt_7 : decode cX9_violationAt 7 = .ok (.if_icmp .gt 52, 3) := by decide +kernel
theorem dX9_violationAt_10 : decode cX9_violationAt 10 = .ok (.iconst 0, 1) := by decide +kernel
theorem dX9_violationAt_11 : decode cX9_violationAt 11 = .ok (.istore 4, 2) := by decide +kernel
theorem dX9_violationAt_13 : decode cX9_violationAt 13 = .ok (.iload 4, 2) := by decide +kernel
theorem dX9_violationAt_15 : decode cX9_violationAt 15 = .ok (.aload_n 0, 1) := by decide +kernel
theorem dX9_violationAt_16 : decode cX9_violationAt 16 = .ok (.getfield 114, 3) := by decide +kernel
theorem dX9_violationAt_19 : decode cX9_violationAt 19 = .ok (.if_icmp .ge 34, 3) := by decide +kernel
theorem dX9_violationAt_22 : decode cX9_violationAt 22 = .ok (.aload_n 0, 1) := by decide +kernel
theorem dX9_violationAt_23 : decode cX9_violationAt 23 = .ok (.iload_n 3, 1) := by decide +kernel
theorem dX9_violationAt_24 : decode cX9_violationAt 24 = .ok (.iload 4, 2) := by decide +kernel
theorem dX9_violationAt_26 : decode cX9_violationAt 26 = .ok (.invokevirtual 150, 3) := by decide +kernel
theorem dX9_violationAt_29 : decode cX9_violationAt 29 = .ok (.ifCond .eq 18, 3) := by decide +kernel
theorem dX9_violationAt_32 : decode cX9_violationAt 32 = .ok (.iload_n 2, 1) := by decide +kernel
theorem dX9_violationAt_33 : decode cX9_violationAt 33 = .ok (.ifCond .ne 11, 3) := by decide +kernel
theorem dX9_violationAt_36 : decode cX9_violationAt 36 = .ok (.bipush 100, 2) := by decide +kernel
theorem dX9_violationAt_38 : decode cX9_violationAt 38 = .ok (.iload_n 3, 1) := by decide +kernel
theorem dX9_violationAt_39 : decode cX9_violationAt 39 = .ok (.imul, 1) := by decide +kernel
theorem dX9_violationAt_40 : decode cX9_violationAt 40 = .ok (.iload 4, 2) := by decide +kernel
theorem dX9_violationAt_42 : decode cX9_violationAt 42 = .ok (.iadd, 1) := by decide +kernel
theorem dX9_violationAt_43 : decode cX9_violationAt 43 = .ok (.ireturn, 1) := by decide +kernel
theorem dX9_violationAt_44 : decode cX9_violationAt 44 = .ok (.iinc 2 (-1), 3) := by decide +kernel
theorem dX9_violationAt_47 : decode cX9_violationAt 47 = .ok (.iinc 4 1, 3) := by decide +kernel
theorem dX9_violationAt_50 : decode cX9_violationAt 50 = .ok (.goto (-37), 3) := by decide +kernel
theorem dX9_violationAt_53 : decode cX9_violationAt 53 = .ok (.iinc 3 1, 3) := by decide +kernel
theorem dX9_violationAt_56 : decode cX9_violationAt 56 = .ok (.goto (-52), 3) := by decide +kernel
theorem dX9_violationAt_59 : decode cX9_violationAt 59 = .ok (.iconst 0, 1) := by decide +kernel
theorem dX9_violationAt_60 : decode cX9_violationAt 60 = .ok (.ireturn, 1) := by decide +kernel
theorem dX9_violations_0 : decode cX9_violations 0 = .ok (.iconst 0, 1) := by decide +kernel
theorem dX9_violations_1 : decode cX9_violations 1 = .ok (.istore_n 1, 1) := by decide +kernel
theorem dX9_violations_2 : decode cX9_violations 2 = .ok (.aload_n 0, 1) := by decide +kernel
theorem dX9_violations_3 : decode cX9_violations 3 = .ok (.iload_n 1, 1) := by decide +kernel
theorem dX9_violations_4 : decode cX9_violations 4 = .ok (.invokevirtual 154, 3) := by decide +kernel
theorem dX9_violations_7 : decode cX9_violations 7 = .ok (.ifCond .le 9, 3) := by decide +kernel
theorem dX9_violations_10 : decode cX9_violations 10 = .ok (.iinc 1 1, 3) := by decide +kernel
theorem dX9_violations_13 : decode cX9_violations 13 = .ok (.goto (-11), 3) := by decide +kernel
theorem dX9_violations_16 : decode cX9_violations 16 = .ok (.iload_n 1, 1) := by decide +kernel
theorem dX9_violations_17 : decode cX9_violations 17 = .ok (.ireturn, 1) := by decide +kernel
theorem dX9_hinders_0 : decode cX9_hinders 0 = .ok (.aload_n 0, 1) := by decide +kernel
theorem dX9_hinders_1 : decode cX9_hinders 1 = .ok (.iload_n 1, 1) := by decide +kernel
theorem dX9_hinders_2 : decode cX9_hinders 2 = .ok (.iconst 4, 1) := by decide +kernel
theorem dX9_hinders_3 : decode cX9_hinders 3 = .ok (.invokevirtual 63, 3) := by decide +kernel
theorem dX9_hinders_6 : decode cX9_hinders 6 = .ok (.iconst 1, 1) := by decide +kernel
theorem dX9_hinders_7 : decode cX9_hinders 7 = .ok (.if_icmp .ne 7, 3) := by decide +kernel
theorem dX9_hinders_10 : decode cX9_hinders 10 = .ok (.sipush 1000, 3) := by decide +kernel
theorem dX9_hinders_13 : decode cX9_hinders 13 = .ok (.ireturn, 1) := by decide +kernel
theorem dX9_hinders_14 : decode cX9_hinders 14 = .ok (.iconst 0, 1) := by decide +kernel
theorem dX9_hinders_15 : decode cX9_hinders 15 = .ok (.istore_n 3, 1) := by decide +kernel
theorem dX9_hinders_16 : decode cX9_hinders 16 = .ok (.iload_n 3, 1) := by decide +kernel
theorem dX9_hinders_17 : decode cX9_hinders 17 = .ok (.aload_n 0, 1) := by decide +kernel
theorem dX9_hinders_18 : decode cX9_hinders 18 = .ok (.getfield 114, 3) := by decide +kernel
theorem dX9_hinders_21 : decode cX9_hinders 21 = .ok (.if_icmp .ge 22, 3) := by decide +kernel
theorem dX9_hinders_24 : decode cX9_hinders 24 = .ok (.aload_n 0, 1) := by decide +kernel
theorem dX9_hinders_25 : decode cX9_hinders 25 = .ok (.iload_n 3, 1) := by decide +kernel
theorem dX9_hinders_26 : decode cX9_hinders 26 = .ok (.invokevirtual 120, 3) := by decide +kernel
theorem dX9_hinders_29 : decode cX9_hinders 29 = .ok (.iload_n 1, 1) := by decide +kernel
theorem dX9_hinders_30 : decode cX9_hinders 30 = .ok (.if_icmp .ne 7, 3) := by decide +kernel
theorem dX9_hinders_33 : decode cX9_hinders 33 = .ok (.sipush 900, 3) := by decide +kernel
theorem dX9_hinders_36 : decode cX9_hinders 36 = .ok (.ireturn, 1) := by decide +kernel
theorem dX9_hinders_37 : decode cX9_hinders 37 = .ok (.iinc 3 1, 3) := by decide +kernel
theorem dX9_hinders_40 : decode cX9_hinders 40 = .ok (.goto (-24), 3) := by decide +kernel
theorem dX9_hinders_43 : decode cX9_hinders 43 = .ok (.iload_n 2, 1) := by decide +kernel
theorem dX9_hinders_44 : decode cX9_hinders 44 = .ok (.ifCond .eq 15, 3) := by decide +kernel
theorem dX9_hinders_47 : decode cX9_hinders 47 = .ok (.aload_n 0, 1) := by decide +kernel
theorem dX9_hinders_48 : decode cX9_hinders 48 = .ok (.iload_n 1, 1) := by decide +kernel
theorem dX9_hinders_49 : decode cX9_hinders 49 = .ok (.invokevirtual 104, 3) := by decide +kernel
theorem dX9_hinders_52 : decode cX9_hinders 52 = .ok (.ifCond .lt 7, 3) := by decide +kernel
theorem dX9_hinders_55 : decode cX9_hinders 55 = .ok (.sipush 800, 3) := by decide +kernel
theorem dX9_hinders_58 : decode cX9_hinders 58 = .ok (.ireturn, 1) := by decide +kernel
theorem dX9_hinders_59 : decode cX9_hinders 59 = .ok (.aload_n 0, 1) := by decide +kernel
theorem dX9_hinders_60 : decode cX9_hinders 60 = .ok (.iload_n 1, 1) := by decide +kernel
theorem dX9_hinders_61 : decode cX9_hinders 61 = .ok (.iload_n 2, 1) := by decide +kernel
theorem dX9_hinders_62 : decode cX9_hinders 62 = .ok (.invokevirtual 157, 3) := by decide +kernel
theorem dX9_hinders_65 : decode cX9_hinders 65 = .ok (.istore_n 3, 1) := by decide +kernel
theorem dX9_hinders_66 : decode cX9_hinders 66 = .ok (.aload_n 0, 1) := by decide +kernel
theorem dX9_hinders_67 : decode cX9_hinders 67 = .ok (.iconst 0, 1) := by decide +kernel
theorem dX9_hinders_68 : decode cX9_hinders 68 = .ok (.invokevirtual 154, 3) := by decide +kernel
theorem dX9_hinders_71 : decode cX9_hinders 71 = .ok (.istore 4, 2) := by decide +kernel
theorem dX9_hinders_73 : decode cX9_hinders 73 = .ok (.aload_n 0, 1) := by decide +kernel
theorem dX9_hinders_74 : decode cX9_hinders 74 = .ok (.iload_n 3, 1) := by decide +kernel
theorem dX9_hinders_75 : decode cX9_hinders 75 = .ok (.invokevirtual 161, 3) := by decide +kernel
theorem dX9_hinders_78 : decode cX9_hinders 78 = .ok (.iload 4, 2) := by decide +kernel
theorem dX9_hinders_80 : decode cX9_hinders 80 = .ok (.ireturn, 1) := by decide +kernel
theorem dX9_hinders__0 : decode cX9_hinders_ 0 = .ok (.aload_n 0, 1) := by decide +kernel
theorem dX9_hinders__1 : decode cX9_hinders_ 1 = .ok (.iload_n 1, 1) := by decide +kernel
theorem dX9_hinders__2 : decode cX9_hinders_ 2 = .ok (.invokevirtual 165, 3) := by decide +kernel
theorem dX9_hinders__5 : decode cX9_hinders_ 5 = .ok (.aload_n 0, 1) := by decide +kernel
theorem dX9_hinders__6 : decode cX9_hinders_ 6 = .ok (.iload_n 2, 1) := by decide +kernel
theorem dX9_hinders__7 : decode cX9_hinders_ 7 = .ok (.iload_n 3, 1) := by decide +kernel
theorem dX9_hinders__8 : decode cX9_hinders_ 8 = .ok (.invokevirtual 168, 3) := by decide +kernel
theorem dX9_hinders__11 : decode cX9_hinders_ 11 = .ok (.ireturn, 1) := by decide +kernel
theorem dX9_enter_0 : decode cX9_enter 0 = .ok (.aload_n 0, 1) := by decide +kernel
theorem dX9_enter_1 : decode cX9_enter 1 = .ok (.iload_n 1, 1) := by decide +kernel
theorem dX9_enter_2 : decode cX9_enter 2 = .ok (.invokevirtual 165, 3) := by decide +kernel
theorem dX9_enter_5 : decode cX9_enter 5 = .ok (.aload_n 0, 1) := by decide +kernel
theorem dX9_enter_6 : decode cX9_enter 6 = .ok (.iload_n 2, 1) := by decide +kernel
theorem dX9_enter_7 : decode cX9_enter 7 = .ok (.iload_n 3, 1) := by decide +kernel
theorem dX9_enter_8 : decode cX9_enter 8 = .ok (.invokevirtual 157, 3) := by decide +kernel
theorem dX9_enter_11 : decode cX9_enter 11 = .ok (.istore 4, 2) := by decide +kernel
theorem dX9_enter_13 : decode cX9_enter 13 = .ok (.aload_n 0, 1) := by decide +kernel
theorem dX9_enter_14 : decode cX9_enter 14 = .ok (.iload_n 1, 1) := by decide +kernel
theorem dX9_enter_15 : decode cX9_enter 15 = .ok (.invokevirtual 171, 3) := by decide +kernel
theorem dX9_enter_18 : decode cX9_enter 18 = .ok (.iload 4, 2) := by decide +kernel
theorem dX9_enter_20 : decode cX9_enter 20 = .ok (.ireturn, 1) := by decide +kernel
theorem dX9_assign_0 : decode cX9_assign 0 = .ok (.aload_n 0, 1) := by decide +kernel
theorem dX9_assign_1 : decode cX9_assign 1 = .ok (.iload_n 1, 1) := by decide +kernel
theorem dX9_assign_2 : decode cX9_assign 2 = .ok (.invokevirtual 174, 3) := by decide +kernel
theorem dX9_assign_5 : decode cX9_assign 5 = .ok (.ifCond .eq 11, 3) := by decide +kernel
theorem dX9_assign_8 : decode cX9_assign 8 = .ok (.aload_n 0, 1) := by decide +kernel
theorem dX9_assign_9 : decode cX9_assign 9 = .ok (.iload_n 2, 1) := by decide +kernel
theorem dX9_assign_10 : decode cX9_assign 10 = .ok (.invokevirtual 100, 3) := by decide +kernel
theorem dX9_assign_13 : decode cX9_assign 13 = .ok (.ifCond .ne 5, 3) := by decide +kernel
theorem dX9_assign_16 : decode cX9_assign 16 = .ok (.iconst (-1), 1) := by decide +kernel
theorem dX9_assign_17 : decode cX9_assign 17 = .ok (.ireturn, 1) := by decide +kernel
theorem dX9_assign_18 : decode cX9_assign 18 = .ok (.aload_n 0, 1) := by decide +kernel
theorem dX9_assign_19 : decode cX9_assign 19 = .ok (.iload_n 1, 1) := by decide +kernel
theorem dX9_assign_20 : decode cX9_assign 20 = .ok (.iload_n 2, 1) := by decide +kernel
theorem dX9_assign_21 : decode cX9_assign 21 = .ok (.iload_n 3, 1) := by decide +kernel
theorem dX9_assign_22 : decode cX9_assign 22 = .ok (.invokevirtual 177, 3) := by decide +kernel
theorem dX9_assign_25 : decode cX9_assign 25 = .ok (.istore 4, 2) := by decide +kernel
theorem dX9_assign_27 : decode cX9_assign 27 = .ok (.iload 4, 2) := by decide +kernel
theorem dX9_assign_29 : decode cX9_assign 29 = .ok (.ifCond .le 12, 3) := by decide +kernel
theorem dX9_assign_32 : decode cX9_assign 32 = .ok (.bipush (-100), 2) := by decide +kernel
theorem dX9_assign_34 : decode cX9_assign 34 = .ok (.iload 4, 2) := by decide +kernel
theorem dX9_assign_36 : decode cX9_assign 36 = .ok (.bipush 100, 2) := by decide +kernel
theorem dX9_assign_38 : decode cX9_assign 38 = .ok (.idiv, 1) := by decide +kernel
theorem dX9_assign_39 : decode cX9_assign 39 = .ok (.isub, 1) := by decide +kernel
theorem dX9_assign_40 : decode cX9_assign 40 = .ok (.ireturn, 1) := by decide +kernel
theorem dX9_assign_41 : decode cX9_assign 41 = .ok (.aload_n 0, 1) := by decide +kernel
theorem dX9_assign_42 : decode cX9_assign 42 = .ok (.invokevirtual 88, 3) := by decide +kernel
theorem dX9_assign_45 : decode cX9_assign 45 = .ok (.aload_n 0, 1) := by decide +kernel
theorem dX9_assign_46 : decode cX9_assign 46 = .ok (.iload_n 1, 1) := by decide +kernel
theorem dX9_assign_47 : decode cX9_assign 47 = .ok (.iload_n 2, 1) := by decide +kernel
theorem dX9_assign_48 : decode cX9_assign 48 = .ok (.iload_n 3, 1) := by decide +kernel
theorem dX9_assign_49 : decode cX9_assign 49 = .ok (.invokevirtual 180, 3) := by decide +kernel
theorem dX9_assign_52 : decode cX9_assign 52 = .ok (.ireturn, 1) := by decide +kernel
theorem dX9_fly_0 : decode cX9_fly 0 = .ok (.aload_n 0, 1) := by decide +kernel
theorem dX9_fly_1 : decode cX9_fly 1 = .ok (.iload_n 1, 1) := by decide +kernel
theorem dX9_fly_2 : decode cX9_fly 2 = .ok (.iload_n 2, 1) := by decide +kernel
theorem dX9_fly_3 : decode cX9_fly 3 = .ok (.iconst 1, 1) := by decide +kernel
theorem dX9_fly_4 : decode cX9_fly 4 = .ok (.invokevirtual 183, 3) := by decide +kernel
theorem dX9_fly_7 : decode cX9_fly 7 = .ok (.ireturn, 1) := by decide +kernel
theorem dX9_ride_0 : decode cX9_ride 0 = .ok (.aload_n 0, 1) := by decide +kernel
theorem dX9_ride_1 : decode cX9_ride 1 = .ok (.iload_n 1, 1) := by decide +kernel
theorem dX9_ride_2 : decode cX9_ride 2 = .ok (.iload_n 2, 1) := by decide +kernel
theorem dX9_ride_3 : decode cX9_ride 3 = .ok (.iconst 0, 1) := by decide +kernel
theorem dX9_ride_4 : decode cX9_ride 4 = .ok (.invokevirtual 183, 3) := by decide +kernel
theorem dX9_ride_7 : decode cX9_ride 7 = .ok (.ireturn, 1) := by decide +kernel
theorem dX9_drop_0 : decode cX9_drop 0 = .ok (.aload_n 0, 1) := by decide +kernel
theorem dX9_drop_1 : decode cX9_drop 1 = .ok (.iload_n 1, 1) := by decide +kernel
theorem dX9_drop_2 : decode cX9_drop 2 = .ok (.invokevirtual 174, 3) := by decide +kernel
theorem dX9_drop_5 : decode cX9_drop 5 = .ok (.ifCond .eq 11, 3) := by decide +kernel
theorem dX9_drop_8 : decode cX9_drop 8 = .ok (.aload_n 0, 1) := by decide +kernel
theorem dX9_drop_9 : decode cX9_drop 9 = .ok (.iload_n 2, 1) := by decide +kernel
theorem dX9_drop_10 : decode cX9_drop 10 = .ok (.invokevirtual 100, 3) := by decide +kernel
theorem dX9_drop_13 : decode cX9_drop 13 = .ok (.ifCond .ne 5, 3) := by decide +kernel
theorem dX9_drop_16 : decode cX9_drop 16 = .ok (.iconst (-1), 1) := by decide +kernel
theorem dX9_drop_17 : decode cX9_drop 17 = .ok (.ireturn, 1) := by decide +kernel
theorem dX9_drop_18 : decode cX9_drop 18 = .ok (.aload_n 0, 1) := by decide +kernel
theorem dX9_drop_19 : decode cX9_drop 19 = .ok (.iload_n 1, 1) := by decide +kernel
theorem dX9_drop_20 : decode cX9_drop 20 = .ok (.iload_n 2, 1) := by decide +kernel
theorem dX9_drop_21 : decode cX9_drop 21 = .ok (.invokevirtual 97, 3) := by decide +kernel
theorem dX9_drop_24 : decode cX9_drop 24 = .ok (.istore_n 3, 1) := by decide +kernel
theorem dX9_drop_25 : decode cX9_drop 25 = .ok (.iload_n 3, 1) := by decide +kernel
theorem dX9_drop_26 : decode cX9_drop 26 = .ok (.ifCond .ge 6, 3) := by decide +kernel
theorem dX9_drop_29 : decode cX9_drop 29 = .ok (.bipush (-2), 2) := by decide +kernel
theorem dX9_drop_31 : decode cX9_drop 31 = .ok (.ireturn, 1) := by decide +kernel
theorem dX9_drop_32 : decode cX9_drop 32 = .ok (.aload_n 0, 1) := by decide +kernel
theorem dX9_drop_33 : decode cX9_drop 33 = .ok (.invokevirtual 88, 3) := by decide +kernel
theorem dX9_drop_36 : decode cX9_drop 36 = .ok (.aload_n 0, 1) := by decide +kernel
theorem dX9_drop_37 : decode cX9_drop 37 = .ok (.iload_n 1, 1) := by decide +kernel
theorem dX9_drop_38 : decode cX9_drop 38 = .ok (.invokevirtual 165, 3) := by decide +kernel
theorem dX9_drop_41 : decode cX9_drop 41 = .ok (.aload_n 0, 1) := by decide +kernel
theorem dX9_drop_42 : decode cX9_drop 42 = .ok (.iload_n 3, 1) := by decide +kernel
theorem dX9_drop_43 : decode cX9_drop 43 = .ok (.invokevirtual 161, 3) := by decide +kernel
theorem dX9_drop_46 : decode cX9_drop 46 = .ok (.aload_n 0, 1) := by decide +kernel
theorem dX9_drop_47 : decode cX9_drop 47 = .ok (.iload_n 1, 1) := by decide +kernel
theorem dX9_drop_48 : decode cX9_drop 48 = .ok (.invokevirtual 171, 3) := by decide +kernel
theorem dX9_drop_51 : decode cX9_drop 51 = .ok (.aload_n 0, 1) := by decide +kernel
theorem dX9_drop_52 : decode cX9_drop 52 = .ok (.getfield 114, 3) := by decide +kernel
theorem dX9_drop_55 : decode cX9_drop 55 = .ok (.ireturn, 1) := by decide +kernel
theorem dX9_reason_0 : decode cX9_reason 0 = .ok (.aload_n 0, 1) := by decide +kernel
theorem dX9_reason_1 : decode cX9_reason 1 = .ok (.iload_n 1, 1) := by decide +kernel
theorem dX9_reason_2 : decode cX9_reason 2 = .ok (.invokevirtual 174, 3) := by decide +kernel
theorem dX9_reason_5 : decode cX9_reason 5 = .ok (.ifCond .eq 24, 3) := by decide +kernel
theorem dX9_reason_8 : decode cX9_reason 8 = .ok (.aload_n 0, 1) := by decide +kernel
theorem dX9_reason_9 : decode cX9_reason 9 = .ok (.iload_n 2, 1) := by decide +kernel
theorem dX9_reason_10 : decode cX9_reason 10 = .ok (.invokevirtual 100, 3) := by decide +kernel
theorem dX9_reason_13 : decode cX9_reason 13 = .ok (.ifCond .eq 16, 3) := by decide +kernel
theorem dX9_reason_16 : decode cX9_reason 16 = .ok (.aload_n 0, 1) := by decide +kernel
theorem dX9_reason_17 : decode cX9_reason 17 = .ok (.iload_n 1, 1) := by decide +kernel
theorem dX9_reason_18 : decode cX9_reason 18 = .ok (.iload_n 2, 1) := by decide +kernel
theorem dX9_reason_19 : decode cX9_reason 19 = .ok (.iload_n 3, 1) := by decide +kernel
theorem dX9_reason_20 : decode cX9_reason 20 = .ok (.invokevirtual 177, 3) := by decide +kernel
theorem dX9_reason_23 : decode cX9_reason 23 = .ok (.bipush 100, 2) := by decide +kernel
theorem dX9_reason_25 : decode cX9_reason 25 = .ok (.idiv, 1) := by decide +kernel
theorem dX9_reason_26 : decode cX9_reason 26 = .ok (.goto 4, 3) := by decide +kernel
theorem dX9_reason_29 : decode cX9_reason 29 = .ok (.iconst (-1), 1) := by decide +kernel
theorem dX9_reason_30 : decode cX9_reason 30 = .ok (.ireturn, 1) := by decide +kernel
theorem dX9_place_0 : decode cX9_place 0 = .ok (.aload_n 0, 1) := by decide +kernel
theorem dX9_place_1 : decode cX9_place 1 = .ok (.iload_n 1, 1) := by decide +kernel
theorem dX9_place_2 : decode cX9_place 2 = .ok (.invokevirtual 174, 3) := by decide +kernel
theorem dX9_place_5 : decode cX9_place 5 = .ok (.ifCond .eq 11, 3) := by decide +kernel
theorem dX9_place_8 : decode cX9_place 8 = .ok (.aload_n 0, 1) := by decide +kernel
theorem dX9_place_9 : decode cX9_place 9 = .ok (.iload_n 2, 1) := by decide +kernel
theorem dX9_place_10 : decode cX9_place 10 = .ok (.invokevirtual 100, 3) := by decide +kernel
theorem dX9_place_13 : decode cX9_place 13 = .ok (.ifCond .ne 5, 3) := by decide +kernel
theorem dX9_place_16 : decode cX9_place 16 = .ok (.iconst (-1), 1) := by decide +kernel
theorem dX9_place_17 : decode cX9_place 17 = .ok (.ireturn, 1) := by decide +kernel
theorem dX9_place_18 : decode cX9_place 18 = .ok (.aload_n 0, 1) := by decide +kernel
theorem dX9_place_19 : decode cX9_place 19 = .ok (.iload_n 1, 1) := by decide +kernel
theorem dX9_place_20 : decode cX9_place 20 = .ok (.iload_n 2, 1) := by decide +kernel
theorem dX9_place_21 : decode cX9_place 21 = .ok (.iload_n 3, 1) := by decide +kernel
theorem dX9_place_22 : decode cX9_place 22 = .ok (.invokevirtual 177, 3) := by decide +kernel
theorem dX9_place_25 : decode cX9_place 25 = .ok (.istore 4, 2) := by decide +kernel
theorem dX9_place_27 : decode cX9_place 27 = .ok (.iload 4, 2) := by decide +kernel
theorem dX9_place_29 : decode cX9_place 29 = .ok (.bipush 100, 2) := by decide +kernel
theorem dX9_place_31 : decode cX9_place 31 = .ok (.idiv, 1) := by decide +kernel
theorem dX9_place_32 : decode cX9_place 32 = .ok (.iconst 1, 1) := by decide +kernel
theorem dX9_place_33 : decode cX9_place 33 = .ok (.bipush 7, 2) := by decide +kernel
theorem dX9_place_35 : decode cX9_place 35 = .ok (.invokestatic 59, 3) := by decide +kernel
theorem dX9_place_38 : decode cX9_place 38 = .ok (.ifCond .eq 11, 3) := by decide +kernel
theorem dX9_place_41 : decode cX9_place 41 = .ok (.iload 4, 2) := by decide +kernel
theorem dX9_place_43 : decode cX9_place 43 = .ok (.bipush 100, 2) := by decide +kernel
theorem dX9_place_45 : decode cX9_place 45 = .ok (.irem, 1) := by decide +kernel
theorem dX9_place_46 : decode cX9_place 46 = .ok (.goto 5, 3) := by decide +kernel
theorem dX9_place_49 : decode cX9_place 49 = .ok (.bipush (-2), 2) := by decide +kernel
theorem dX9_place_51 : decode cX9_place 51 = .ok (.ireturn, 1) := by decide +kernel
theorem dX9_itemCount_0 : decode cX9_itemCount 0 = .ok (.aload_n 0, 1) := by decide +kernel
theorem dX9_itemCount_1 : decode cX9_itemCount 1 = .ok (.iload_n 1, 1) := by decide +kernel
theorem dX9_itemCount_2 : decode cX9_itemCount 2 = .ok (.invokevirtual 174, 3) := by decide +kernel
theorem dX9_itemCount_5 : decode cX9_itemCount 5 = .ok (.ifCond .eq 12, 3) := by decide +kernel
theorem dX9_itemCount_8 : decode cX9_itemCount 8 = .ok (.aload_n 0, 1) := by decide +kernel
theorem dX9_itemCount_9 : decode cX9_itemCount 9 = .ok (.iload_n 1, 1) := by decide +kernel
theorem dX9_itemCount_10 : decode cX9_itemCount 10 = .ok (.iconst 3, 1) := by decide +kernel
theorem dX9_itemCount_11 : decode cX9_itemCount 11 = .ok (.invokevirtual 94, 3) := by decide +kernel
theorem dX9_itemCount_14 : decode cX9_itemCount 14 = .ok (.goto 4, 3) := by decide +kernel
theorem dX9_itemCount_17 : decode cX9_itemCount 17 = .ok (.iconst (-1), 1) := by decide +kernel
theorem dX9_itemCount_18 : decode cX9_itemCount 18 = .ok (.ireturn, 1) := by decide +kernel
theorem dX9_dutyOf_0 : decode cX9_dutyOf 0 = .ok (.iconst (-1), 1) := by decide +kernel
theorem dX9_dutyOf_1 : decode cX9_dutyOf 1 = .ok (.istore_n 2, 1) := by decide +kernel
theorem dX9_dutyOf_2 : decode cX9_dutyOf 2 = .ok (.iconst 0, 1) := by decide +kernel
theorem dX9_dutyOf_3 : decode cX9_dutyOf 3 = .ok (.istore_n 3, 1) := by decide +kernel
theorem dX9_dutyOf_4 : decode cX9_dutyOf 4 = .ok (.iload_n 3, 1) := by decide +kernel
theorem dX9_dutyOf_5 : decode cX9_dutyOf 5 = .ok (.iload_n 1, 1) := by decide +kernel
theorem dX9_dutyOf_6 : decode cX9_dutyOf 6 = .ok (.if_icmp .gt 25, 3) := by decide +kernel
theorem dX9_dutyOf_9 : decode cX9_dutyOf 9 = .ok (.iload_n 2, 1) := by decide +kernel
theorem dX9_dutyOf_10 : decode cX9_dutyOf 10 = .ok (.aload_n 0, 1) := by decide +kernel
theorem dX9_dutyOf_11 : decode cX9_dutyOf 11 = .ok (.iload_n 3, 1) := by decide +kernel
theorem dX9_dutyOf_12 : decode cX9_dutyOf 12 = .ok (.invokevirtual 126, 3) := by decide +kernel
theorem dX9_dutyOf_15 : decode cX9_dutyOf 15 = .ok (.ifCond .eq 7, 3) := by decide +kernel
theorem dX9_dutyOf_18 : decode cX9_dutyOf 18 = .ok (.iconst 1, 1) := by decide +kernel
theorem dX9_dutyOf_19 : decode cX9_dutyOf 19 = .ok (.goto 4, 3) := by decide +kernel
theorem dX9_dutyOf_22 : decode cX9_dutyOf 22 = .ok (.iconst 0, 1) := by decide +kernel
theorem dX9_dutyOf_23 : decode cX9_dutyOf 23 = .ok (.iadd, 1) := by decide +kernel
theorem dX9_dutyOf_24 : decode cX9_dutyOf 24 = .ok (.istore_n 2, 1) := by decide +kernel
theorem dX9_dutyOf_25 : decode cX9_dutyOf 25 = .ok (.iinc 3 1, 3) := by decide +kernel
theorem dX9_dutyOf_28 : decode cX9_dutyOf 28 = .ok (.goto (-24), 3) := by decide +kernel
theorem dX9_dutyOf_31 : decode cX9_dutyOf 31 = .ok (.iload_n 2, 1) := by decide +kernel
theorem dX9_dutyOf_32 : decode cX9_dutyOf 32 = .ok (.ireturn, 1) := by decide +kernel
theorem dX9_item_0 : decode cX9_item 0 = .ok (.aload_n 0, 1) := by decide +kernel
theorem dX9_item_1 : decode cX9_item 1 = .ok (.iload_n 1, 1) := by decide +kernel
theorem dX9_item_2 : decode cX9_item 2 = .ok (.invokevirtual 174, 3) := by decide +kernel
theorem dX9_item_5 : decode cX9_item 5 = .ok (.ifCond .eq 12, 3) := by decide +kernel
theorem dX9_item_8 : decode cX9_item 8 = .ok (.iload_n 3, 1) := by decide +kernel
theorem dX9_item_9 : decode cX9_item 9 = .ok (.iconst 0, 1) := by decide +kernel
theorem dX9_item_10 : decode cX9_item 10 = .ok (.iconst 2, 1) := by decide +kernel
theorem dX9_item_11 : decode cX9_item 11 = .ok (.invokestatic 59, 3) := by decide +kernel
theorem dX9_item_14 : decode cX9_item 14 = .ok (.ifCond .ne 5, 3) := by decide +kernel
theorem dX9_item_17 : decode cX9_item 17 = .ok (.iconst (-1), 1) := by decide +kernel
theorem dX9_item_18 : decode cX9_item 18 = .ok (.ireturn, 1) := by decide +kernel
theorem dX9_item_19 : decode cX9_item 19 = .ok (.aload_n 0, 1) := by decide +kernel
theorem dX9_item_20 : decode cX9_item 20 = .ok (.iload_n 1, 1) := by decide +kernel
theorem dX9_item_21 : decode cX9_item 21 = .ok (.invokevirtual 165, 3) := by decide +kernel
theorem dX9_item_24 : decode cX9_item 24 = .ok (.iload_n 2, 1) := by decide +kernel
theorem dX9_item_25 : decode cX9_item 25 = .ok (.iconst 0, 1) := by decide +kernel
theorem dX9_item_26 : decode cX9_item 26 = .ok (.aload_n 0, 1) := by decide +kernel
theorem dX9_item_27 : decode cX9_item 27 = .ok (.getfield 114, 3) := by decide +kernel
theorem dX9_item_30 : decode cX9_item 30 = .ok (.iconst 1, 1) := by decide +kernel
theorem dX9_item_31 : decode cX9_item 31 = .ok (.isub, 1) := by decide +kernel
theorem dX9_item_32 : decode cX9_item 32 = .ok (.invokestatic 59, 3) := by decide +kernel
theorem dX9_item_35 : decode cX9_item 35 = .ok (.ifCond .ne 6, 3) := by decide +kernel
theorem dX9_item_38 : decode cX9_item 38 = .ok (.bipush (-2), 2) := by decide +kernel
theorem dX9_item_40 : decode cX9_item 40 = .ok (.ireturn, 1) := by decide +kernel
theorem dX9_item_41 : decode cX9_item 41 = .ok (.iload_n 3, 1) := by decide +kernel
theorem dX9_item_42 : decode cX9_item 42 = .ok (.ifCond .ne 11, 3) := by decide +kernel
theorem dX9_item_45 : decode cX9_item 45 = .ok (.aload_n 0, 1) := by decide +kernel
theorem dX9_item_46 : decode cX9_item 46 = .ok (.iload_n 2, 1) := by decide +kernel
theorem dX9_item_47 : decode cX9_item 47 = .ok (.invokevirtual 120, 3) := by decide +kernel
theorem dX9_item_50 : decode cX9_item 50 = .ok (.goto 24, 3) := by decide +kernel
theorem dX9_item_53 : decode cX9_item 53 = .ok (.iload_n 3, 1) := by decide +kernel
theorem dX9_item_54 : decode cX9_item 54 = .ok (.iconst 1, 1) := by decide +kernel
theorem dX9_item_55 : decode cX9_item 55 = .ok (.if_icmp .ne 14, 3) := by decide +kernel
theorem dX9_item_58 : decode cX9_item 58 = .ok (.aload_n 0, 1) := by decide +kernel
theorem dX9_item_59 : decode cX9_item 59 = .ok (.getfield 22, 3) := by decide +kernel
theorem dX9_item_62 : decode cX9_item 62 = .ok (.iload_n 2, 1) := by decide +kernel
theorem dX9_item_63 : decode cX9_item 63 = .ok (.iaload, 1) := by decide +kernel
theorem dX9_item_64 : decode cX9_item 64 = .ok (.iconst 2, 1) := by decide +kernel
theorem dX9_item_65 : decode cX9_item 65 = .ok (.irem, 1) := by decide +kernel
theorem dX9_item_66 : decode cX9_item 66 = .ok (.goto 8, 3) := by decide +kernel
theorem dX9_item_69 : decode cX9_item 69 = .ok (.aload_n 0, 1) := by decide +kernel
theorem dX9_item_70 : decode cX9_item 70 = .ok (.iload_n 2, 1) := by decide +kernel
theorem dX9_item_71 : decode cX9_item 71 = .ok (.invokevirtual 186, 3) := by decide +kernel
theorem dX9_item_74 : decode cX9_item 74 = .ok (.ireturn, 1) := by decide +kernel
theorem dX9_dutyCount_0 : decode cX9_dutyCount 0 = .ok (.aload_n 0, 1) := by decide +kernel
theorem dX9_dutyCount_1 : decode cX9_dutyCount 1 = .ok (.iload_n 1, 1) := by decide +kernel
theorem dX9_dutyCount_2 : decode cX9_dutyCount 2 = .ok (.invokevirtual 174, 3) := by decide +kernel
theorem dX9_dutyCount_5 : decode cX9_dutyCount 5 = .ok (.ifCond .ne 5, 3) := by decide +kernel
theorem dX9_dutyCount_8 : decode cX9_dutyCount 8 = .ok (.iconst (-1), 1) := by decide +kernel
theorem dX9_dutyCount_9 : decode cX9_dutyCount 9 = .ok (.ireturn, 1) := by decide +kernel
theorem dX9_dutyCount_10 : decode cX9_dutyCount 10 = .ok (.aload_n 0, 1) := by decide +kernel
theorem dX9_dutyCount_11 : decode cX9_dutyCount 11 = .ok (.iload_n 1, 1) := by decide +kernel
theorem dX9_dutyCount_12 : decode cX9_dutyCount 12 = .ok (.invokevirtual 165, 3) := by decide +kernel
theorem dX9_dutyCount_15 : decode cX9_dutyCount 15 = .ok (.aload_n 0, 1) := by decide +kernel
theorem dX9_dutyCount_16 : decode cX9_dutyCount 16 = .ok (.aload_n 0, 1) := by decide +kernel
theorem dX9_dutyCount_17 : decode cX9_dutyCount 17 = .ok (.getfield 114, 3) := by decide +kernel
theorem dX9_dutyCount_20 : decode cX9_dutyCount 20 = .ok (.iconst 1, 1) := by decide +kernel
theorem dX9_dutyCount_21 : decode cX9_dutyCount 21 = .ok (.isub, 1) := by decide +kernel
theorem dX9_dutyCount_22 : decode cX9_dutyCount 22 = .ok (.invokevirtual 186, 3) := by decide +kernel
theorem dX9_dutyCount_25 : decode cX9_dutyCount 25 = .ok (.iconst 1, 1) := by decide +kernel
theorem dX9_dutyCount_26 : decode cX9_dutyCount 26 = .ok (.iadd, 1) := by decide +kernel
theorem dX9_dutyCount_27 : decode cX9_dutyCount 27 = .ok (.ireturn, 1) := by decide +kernel
theorem dX9_duty_0 : decode cX9_duty 0 = .ok (.aload_n 0, 1) := by decide +kernel
theorem dX9_duty_1 : decode cX9_duty 1 = .ok (.iload_n 1, 1) := by decide +kernel
theorem dX9_duty_2 : decode cX9_duty 2 = .ok (.invokevirtual 174, 3) := by decide +kernel
theorem dX9_duty_5 : decode cX9_duty 5 = .ok (.ifCond .eq 12, 3) := by decide +kernel
theorem dX9_duty_8 : decode cX9_duty 8 = .ok (.iload_n 3, 1) := by decide +kernel
theorem dX9_duty_9 : decode cX9_duty 9 = .ok (.iconst 0, 1) := by decide +kernel
theorem dX9_duty_10 : decode cX9_duty 10 = .ok (.iconst 3, 1) := by decide +kernel
theorem dX9_duty_11 : decode cX9_duty 11 = .ok (.invokestatic 59, 3) := by decide +kernel
theorem dX9_duty_14 : decode cX9_duty 14 = .ok (.ifCond .ne 5, 3) := by decide +kernel
theorem dX9_duty_17 : decode cX9_duty 17 = .ok (.iconst (-1), 1) := by decide +kernel
theorem dX9_duty_18 : decode cX9_duty 18 = .ok (.ireturn, 1) := by decide +kernel
theorem dX9_duty_19 : decode cX9_duty 19 = .ok (.aload_n 0, 1) := by decide +kernel
theorem dX9_duty_20 : decode cX9_duty 20 = .ok (.iload_n 1, 1) := by decide +kernel
theorem dX9_duty_21 : decode cX9_duty 21 = .ok (.invokevirtual 165, 3) := by decide +kernel
theorem dX9_duty_24 : decode cX9_duty 24 = .ok (.iconst (-1), 1) := by decide +kernel
theorem dX9_duty_25 : decode cX9_duty 25 = .ok (.istore 4, 2) := by decide +kernel
theorem dX9_duty_27 : decode cX9_duty 27 = .ok (.aload_n 0, 1) := by decide +kernel
theorem dX9_duty_28 : decode cX9_duty 28 = .ok (.getfield 114, 3) := by decide +kernel
theorem dX9_duty_31 : decode cX9_duty 31 = .ok (.iconst 1, 1) := by decide +kernel
theorem dX9_duty_32 : decode cX9_duty 32 = .ok (.isub, 1) := by decide +kernel
theorem dX9_duty_33 : decode cX9_duty 33 = .ok (.istore 5, 2) := by decide +kernel
theorem dX9_duty_35 : decode cX9_duty 35 = .ok (.iload 5, 2) := by decide +kernel
theorem dX9_duty_37 : decode cX9_duty 37 = .ok (.ifCond .lt 28, 3) := by decide +kernel
theorem dX9_duty_40 : decode cX9_duty 40 = .ok (.aload_n 0, 1) := by decide +kernel
theorem dX9_duty_41 : decode cX9_duty 41 = .ok (.iload 5, 2) := by decide +kernel
theorem dX9_duty_43 : decode cX9_duty 43 = .ok (.invokevirtual 186, 3) := by decide +kernel
theorem dX9_duty_46 : decode cX9_duty 46 = .ok (.iload_n 2, 1) := by decide +kernel
theorem dX9_duty_47 : decode cX9_duty 47 = .ok (.if_icmp .ne 8, 3) := by decide +kernel
theorem dX9_duty_50 : decode cX9_duty 50 = .ok (.iload 5, 2) := by decide +kernel
theorem dX9_duty_52 : decode cX9_duty 52 = .ok (.goto 5, 3) := by decide +kernel
theorem dX9_duty_55 : decode cX9_duty 55 = .ok (.iload 4, 2) := by decide +kernel
theorem dX9_duty_57 : decode cX9_duty 57 = .ok (.istore 4, 2) := by decide +kernel
theorem dX9_duty_59 : decode cX9_duty 59 = .ok (.iinc 5 (-1), 3) := by decide +kernel
theorem dX9_duty_62 : decode cX9_duty 62 = .ok (.goto (-27), 3) := by decide +kernel
theorem dX9_duty_65 : decode cX9_duty 65 = .ok (.iload 4, 2) := by decide +kernel
theorem dX9_duty_67 : decode cX9_duty 67 = .ok (.ifCond .ge 6, 3) := by decide +kernel
theorem dX9_duty_70 : decode cX9_duty 70 = .ok (.bipush (-2), 2) := by decide +kernel
theorem dX9_duty_72 : decode cX9_duty 72 = .ok (.ireturn, 1) := by decide +kernel
theorem dX9_duty_73 : decode cX9_duty 73 = .ok (.aload_n 0, 1) := by decide +kernel
theorem dX9_duty_74 : decode cX9_duty 74 = .ok (.iload 4, 2) := by decide +kernel
theorem dX9_duty_76 : decode cX9_duty 76 = .ok (.invokevirtual 129, 3) := by decide +kernel
theorem dX9_duty_79 : decode cX9_duty 79 = .ok (.istore 5, 2) := by decide +kernel
theorem dX9_duty_81 : decode cX9_duty 81 = .ok (.iload_n 3, 1) := by decide +kernel
theorem dX9_duty_82 : decode cX9_duty 82 = .ok (.ifCond .ne 12, 3) := by decide +kernel
theorem dX9_duty_85 : decode cX9_duty 85 = .ok (.aload_n 0, 1) := by decide +kernel
theorem dX9_duty_86 : decode cX9_duty 86 = .ok (.iload 4, 2) := by decide +kernel
theorem dX9_duty_88 : decode cX9_duty 88 = .ok (.invokevirtual 141, 3) := by decide +kernel
theorem dX9_duty_91 : decode cX9_duty 91 = .ok (.goto 34, 3) := by decide +kernel
theorem dX9_duty_94 : decode cX9_duty 94 = .ok (.iload_n 3, 1) := by decide +kernel
theorem dX9_duty_95 : decode cX9_duty 95 = .ok (.iconst 1, 1) := by decide +kernel
theorem dX9_duty_96 : decode cX9_duty 96 = .ok (.if_icmp .ne 14, 3) := by decide +kernel
theorem dX9_duty_99 : decode cX9_duty 99 = .ok (.aload_n 0, 1) := by decide +kernel
theorem dX9_duty_100 : decode cX9_duty 100 = .ok (.iload 4, 2) := by decide +kernel
theorem dX9_duty_102 : decode cX9_duty 102 = .ok (.iload 5, 2) := by decide +kernel
theorem dX9_duty_104 : decode cX9_duty 104 = .ok (.invokevirtual 144, 3) := by decide +kernel
theorem dX9_duty_107 : decode cX9_duty 107 = .ok (.goto 18, 3) := by decide +kernel
theorem dX9_duty_110 : decode cX9_duty 110 = .ok (.iload_n 3, 1) := by decide +kernel
theorem dX9_duty_111 : decode cX9_duty 111 = .ok (.iconst 2, 1) := by decide +kernel
theorem dX9_duty_112 : decode cX9_duty 112 = .ok (.if_icmp .ne 11, 3) := by decide +kernel
theorem dX9_duty_115 : decode cX9_duty 115 = .ok (.iload 5, 2) := by decide +kernel
theorem dX9_duty_117 : decode cX9_duty 117 = .ok (.iload 4, 2) := by decide +kernel
theorem dX9_duty_119 : decode cX9_duty 119 = .ok (.isub, 1) := by decide +kernel
theorem dX9_duty_120 : decode cX9_duty 120 = .ok (.goto 5, 3) := by decide +kernel
theorem dX9_duty_123 : decode cX9_duty 123 = .ok (.iload 4, 2) := by decide +kernel
theorem dX9_duty_125 : decode cX9_duty 125 = .ok (.ireturn, 1) := by decide +kernel
theorem dX9_violationCount_0 : decode cX9_violationCount 0 = .ok (.aload_n 0, 1) := by decide +kernel
theorem dX9_violationCount_1 : decode cX9_violationCount 1 = .ok (.iload_n 1, 1) := by decide +kernel
theorem dX9_violationCount_2 : decode cX9_violationCount 2 = .ok (.invokevirtual 174, 3) := by decide +kernel
theorem dX9_violationCount_5 : decode cX9_violationCount 5 = .ok (.ifCond .ne 5, 3) := by decide +kernel
theorem dX9_violationCount_8 : decode cX9_violationCount 8 = .ok (.iconst (-1), 1) := by decide +kernel
theorem dX9_violationCount_9 : decode cX9_violationCount 9 = .ok (.ireturn, 1) := by decide +kernel
theorem dX9_violationCount_10 : decode cX9_violationCount 10 = .ok (.aload_n 0, 1) := by decide +kernel
theorem dX9_violationCount_11 : decode cX9_violationCount 11 = .ok (.iload_n 1, 1) := by decide +kernel
theorem dX9_violationCount_12 : decode cX9_violationCount 12 = .ok (.invokevirtual 165, 3) := by decide +kernel
theorem dX9_violationCount_15 : decode cX9_violationCount 15 = .ok (.aload_n 0, 1) := by decide +kernel
theorem dX9_violationCount_16 : decode cX9_violationCount 16 = .ok (.invokevirtual 189, 3) := by decide +kernel
theorem dX9_violationCount_19 : decode cX9_violationCount 19 = .ok (.ireturn, 1) := by decide +kernel
theorem dX9_violation_0 : decode cX9_violation 0 = .ok (.aload_n 0, 1) := by decide +kernel
theorem dX9_violation_1 : decode cX9_violation 1 = .ok (.iload_n 1, 1) := by decide +kernel
theorem dX9_violation_2 : decode cX9_violation 2 = .ok (.invokevirtual 174, 3) := by decide +kernel
theorem dX9_violation_5 : decode cX9_violation 5 = .ok (.ifCond .eq 12, 3) := by decide +kernel
theorem dX9_violation_8 : decode cX9_violation 8 = .ok (.iload_n 3, 1) := by decide +kernel
theorem dX9_violation_9 : decode cX9_violation 9 = .ok (.iconst 0, 1) := by decide +kernel
theorem dX9_violation_10 : decode cX9_violation 10 = .ok (.iconst 1, 1) := by decide +kernel
theorem dX9_violation_11 : decode cX9_violation 11 = .ok (.invokestatic 59, 3) := by decide +kernel
theorem dX9_violation_14 : decode cX9_violation 14 = .ok (.ifCond .ne 5, 3) := by decide +kernel
theorem dX9_violation_17 : decode cX9_violation 17 = .ok (.iconst (-1), 1) := by decide +kernel
theorem dX9_violation_18 : decode cX9_violation 18 = .ok (.ireturn, 1) := by decide +kernel
theorem dX9_violation_19 : decode cX9_violation 19 = .ok (.aload_n 0, 1) := by decide +kernel
theorem dX9_violation_20 : decode cX9_violation 20 = .ok (.iload_n 1, 1) := by decide +kernel
theorem dX9_violation_21 : decode cX9_violation 21 = .ok (.invokevirtual 165, 3) := by decide +kernel
theorem dX9_violation_24 : decode cX9_violation 24 = .ok (.iload_n 2, 1) := by decide +kernel
theorem dX9_violation_25 : decode cX9_violation 25 = .ok (.ifCond .ge 7, 3) := by decide +kernel
theorem dX9_violation_28 : decode cX9_violation 28 = .ok (.iconst 0, 1) := by decide +kernel
theorem dX9_violation_29 : decode cX9_violation 29 = .ok (.goto 8, 3) := by decide +kernel
theorem dX9_violation_32 : decode cX9_violation 32 = .ok (.aload_n 0, 1) := by decide +kernel
theorem dX9_violation_33 : decode cX9_violation 33 = .ok (.iload_n 2, 1) := by decide +kernel
theorem dX9_violation_34 : decode cX9_violation 34 = .ok (.invokevirtual 154, 3) := by decide +kernel
theorem dX9_violation_37 : decode cX9_violation 37 = .ok (.istore 4, 2) := by decide +kernel
theorem dX9_violation_39 : decode cX9_violation 39 = .ok (.iload 4, 2) := by decide +kernel
theorem dX9_violation_41 : decode cX9_violation 41 = .ok (.ifCond .ne 8, 3) := by decide +kernel
theorem dX9_violation_44 : decode cX9_violation 44 = .ok (.bipush (-2), 2) := by decide +kernel
theorem dX9_violation_46 : decode cX9_violation 46 = .ok (.goto 20, 3) := by decide +kernel
theorem dX9_violation_49 : decode cX9_violation 49 = .ok (.iload_n 3, 1) := by decide +kernel
theorem dX9_violation_50 : decode cX9_violation 50 = .ok (.ifCond .ne 11, 3) := by decide +kernel
theorem dX9_violation_53 : decode cX9_violation 53 = .ok (.iload 4, 2) := by decide +kernel
theorem dX9_violation_55 : decode cX9_violation 55 = .ok (.bipush 100, 2) := by decide +kernel
theorem dX9_violation_57 : decode cX9_violation 57 = .ok (.idiv, 1) := by decide +kernel
theorem dX9_violation_58 : decode cX9_violation 58 = .ok (.goto 8, 3) := by decide +kernel
theorem dX9_violation_61 : decode cX9_violation 61 = .ok (.iload 4, 2) := by decide +kernel
theorem dX9_violation_63 : decode cX9_violation 63 = .ok (.bipush 100, 2) := by decide +kernel
theorem dX9_violation_65 : decode cX9_violation 65 = .ok (.irem, 1) := by decide +kernel
theorem dX9_violation_66 : decode cX9_violation 66 = .ok (.ireturn, 1) := by decide +kernel
theorem dX9_minutesOf_0 : decode cX9_minutesOf 0 = .ok (.aload_n 0, 1) := by decide +kernel
theorem dX9_minutesOf_1 : decode cX9_minutesOf 1 = .ok (.iload_n 1, 1) := by decide +kernel
theorem dX9_minutesOf_2 : decode cX9_minutesOf 2 = .ok (.invokevirtual 165, 3) := by decide +kernel
theorem dX9_minutesOf_5 : decode cX9_minutesOf 5 = .ok (.aload_n 0, 1) := by decide +kernel
theorem dX9_minutesOf_6 : decode cX9_minutesOf 6 = .ok (.iconst 0, 1) := by decide +kernel
theorem dX9_minutesOf_7 : decode cX9_minutesOf 7 = .ok (.aload_n 0, 1) := by decide +kernel
theorem dX9_minutesOf_8 : decode cX9_minutesOf 8 = .ok (.getfield 114, 3) := by decide +kernel
theorem dX9_minutesOf_11 : decode cX9_minutesOf 11 = .ok (.invokevirtual 144, 3) := by decide +kernel
theorem dX9_minutesOf_14 : decode cX9_minutesOf 14 = .ok (.ireturn, 1) := by decide +kernel
theorem dX9_minutes_0 : decode cX9_minutes 0 = .ok (.aload_n 0, 1) := by decide +kernel
theorem dX9_minutes_1 : decode cX9_minutes 1 = .ok (.iload_n 1, 1) := by decide +kernel
theorem dX9_minutes_2 : decode cX9_minutes 2 = .ok (.invokevirtual 174, 3) := by decide +kernel
theorem dX9_minutes_5 : decode cX9_minutes 5 = .ok (.ifCond .eq 11, 3) := by decide +kernel
theorem dX9_minutes_8 : decode cX9_minutes 8 = .ok (.aload_n 0, 1) := by decide +kernel
theorem dX9_minutes_9 : decode cX9_minutes 9 = .ok (.iload_n 1, 1) := by decide +kernel
theorem dX9_minutes_10 : decode cX9_minutes 10 = .ok (.invokevirtual 193, 3) := by decide +kernel
theorem dX9_minutes_13 : decode cX9_minutes 13 = .ok (.goto 4, 3) := by decide +kernel
theorem dX9_minutes_16 : decode cX9_minutes 16 = .ok (.iconst (-1), 1) := by decide +kernel
theorem dX9_minutes_17 : decode cX9_minutes 17 = .ok (.ireturn, 1) := by decide +kernel
theorem dX9_within_0 : decode cX9_within 0 = .ok (.aload_n 0, 1) := by decide +kernel
theorem dX9_within_1 : decode cX9_within 1 = .ok (.iload_n 1, 1) := by decide +kernel
theorem dX9_within_2 : decode cX9_within 2 = .ok (.invokevirtual 174, 3) := by decide +kernel
theorem dX9_within_5 : decode cX9_within 5 = .ok (.ifCond .eq 25, 3) := by decide +kernel
theorem dX9_within_8 : decode cX9_within 8 = .ok (.iload_n 2, 1) := by decide +kernel
theorem dX9_within_9 : decode cX9_within 9 = .ok (.iconst 0, 1) := by decide +kernel
theorem dX9_within_10 : decode cX9_within 10 = .ok (.sipush 5999, 3) := by decide +kernel
theorem dX9_within_13 : decode cX9_within 13 = .ok (.invokestatic 59, 3) := by decide +kernel
theorem dX9_within_16 : decode cX9_within 16 = .ok (.ifCond .eq 14, 3) := by decide +kernel
theorem dX9_within_19 : decode cX9_within 19 = .ok (.iload_n 3, 1) := by decide +kernel
theorem dX9_within_20 : decode cX9_within 20 = .ok (.iconst 1, 1) := by decide +kernel
theorem dX9_within_21 : decode cX9_within 21 = .ok (.sipush 6000, 3) := by decide +kernel
theorem dX9_within_24 : decode cX9_within 24 = .ok (.invokestatic 59, 3) := by decide +kernel
theorem dX9_within_27 : decode cX9_within 27 = .ok (.ifCond .ne 5, 3) := by decide +kernel
theorem dX9_within_30 : decode cX9_within 30 = .ok (.iconst (-1), 1) := by decide +kernel
theorem dX9_within_31 : decode cX9_within 31 = .ok (.ireturn, 1) := by decide +kernel
theorem dX9_within_32 : decode cX9_within 32 = .ok (.aload_n 0, 1) := by decide +kernel
theorem dX9_within_33 : decode cX9_within 33 = .ok (.iload_n 1, 1) := by decide +kernel
theorem dX9_within_34 : decode cX9_within 34 = .ok (.invokevirtual 165, 3) := by decide +kernel
theorem dX9_within_37 : decode cX9_within 37 = .ok (.aload_n 0, 1) := by decide +kernel
theorem dX9_within_38 : decode cX9_within 38 = .ok (.iload_n 2, 1) := by decide +kernel
theorem dX9_within_39 : decode cX9_within 39 = .ok (.iload_n 3, 1) := by decide +kernel
theorem dX9_within_40 : decode cX9_within 40 = .ok (.invokevirtual 147, 3) := by decide +kernel
theorem dX9_within_43 : decode cX9_within 43 = .ok (.ireturn, 1) := by decide +kernel
theorem dX9_isHome_0 : decode cX9_isHome 0 = .ok (.aload_n 0, 1) := by decide +kernel
theorem dX9_isHome_1 : decode cX9_isHome 1 = .ok (.getfield 114, 3) := by decide +kernel
theorem dX9_isHome_4 : decode cX9_isHome 4 = .ok (.ifCond .eq 25, 3) := by decide +kernel
theorem dX9_isHome_7 : decode cX9_isHome 7 = .ok (.aload_n 0, 1) := by decide +kernel
theorem dX9_isHome_8 : decode cX9_isHome 8 = .ok (.aload_n 0, 1) := by decide +kernel
theorem dX9_isHome_9 : decode cX9_isHome 9 = .ok (.aload_n 0, 1) := by decide +kernel
theorem dX9_isHome_10 : decode cX9_isHome 10 = .ok (.getfield 114, 3) := by decide +kernel
theorem dX9_isHome_13 : decode cX9_isHome 13 = .ok (.iconst 1, 1) := by decide +kernel
theorem dX9_isHome_14 : decode cX9_isHome 14 = .ok (.isub, 1) := by decide +kernel
theorem dX9_isHome_15 : decode cX9_isHome 15 = .ok (.invokevirtual 120, 3) := by decide +kernel
theorem dX9_isHome_18 : decode cX9_isHome 18 = .ok (.iconst 1, 1) := by decide +kernel
theorem dX9_isHome_19 : decode cX9_isHome 19 = .ok (.invokevirtual 63, 3) := by decide +kernel
theorem dX9_isHome_22 : decode cX9_isHome 22 = .ok (.aload_n 0, 1) := by decide +kernel
theorem dX9_isHome_23 : decode cX9_isHome 23 = .ok (.getfield 117, 3) := by decide +kernel
theorem dX9_isHome_26 : decode cX9_isHome 26 = .ok (.if_icmp .ne 7, 3) := by decide +kernel
theorem dX9_isHome_29 : decode cX9_isHome 29 = .ok (.iconst 1, 1) := by decide +kernel
theorem dX9_isHome_30 : decode cX9_isHome 30 = .ok (.goto 4, 3) := by decide +kernel
theorem dX9_isHome_33 : decode cX9_isHome 33 = .ok (.iconst 0, 1) := by decide +kernel
theorem dX9_isHome_34 : decode cX9_isHome 34 = .ok (.ireturn, 1) := by decide +kernel
theorem dX9_home_0 : decode cX9_home 0 = .ok (.aload_n 0, 1) := by decide +kernel
theorem dX9_home_1 : decode cX9_home 1 = .ok (.iload_n 1, 1) := by decide +kernel
theorem dX9_home_2 : decode cX9_home 2 = .ok (.invokevirtual 174, 3) := by decide +kernel
theorem dX9_home_5 : decode cX9_home 5 = .ok (.ifCond .ne 5, 3) := by decide +kernel
theorem dX9_home_8 : decode cX9_home 8 = .ok (.iconst (-1), 1) := by decide +kernel
theorem dX9_home_9 : decode cX9_home 9 = .ok (.ireturn, 1) := by decide +kernel
theorem dX9_home_10 : decode cX9_home 10 = .ok (.aload_n 0, 1) := by decide +kernel
theorem dX9_home_11 : decode cX9_home 11 = .ok (.iload_n 1, 1) := by decide +kernel
theorem dX9_home_12 : decode cX9_home 12 = .ok (.invokevirtual 165, 3) := by decide +kernel
theorem dX9_home_15 : decode cX9_home 15 = .ok (.aload_n 0, 1) := by decide +kernel
theorem dX9_home_16 : decode cX9_home 16 = .ok (.invokevirtual 196, 3) := by decide +kernel
theorem dX9_home_19 : decode cX9_home 19 = .ok (.ifCond .eq 7, 3) := by decide +kernel
theorem dX9_home_22 : decode cX9_home 22 = .ok (.iconst 1, 1) := by decide +kernel
theorem dX9_home_23 : decode cX9_home 23 = .ok (.goto 4, 3) := by decide +kernel
theorem dX9_home_26 : decode cX9_home 26 = .ok (.iconst 0, 1) := by decide +kernel
theorem dX9_home_27 : decode cX9_home 27 = .ok (.ireturn, 1) := by decide +kernel
theorem dX9_pairings_0 : decode cX9_pairings 0 = .ok (.aload_n 0, 1) := by decide +kernel
theorem dX9_pairings_1 : decode cX9_pairings 1 = .ok (.iload_n 1, 1) := by decide +kernel
theorem dX9_pairings_2 : decode cX9_pairings 2 = .ok (.invokevirtual 174, 3) := by decide +kernel
theorem dX9_pairings_5 : decode cX9_pairings 5 = .ok (.ifCond .ne 5, 3) := by decide +kernel
theorem dX9_pairings_8 : decode cX9_pairings 8 = .ok (.iconst (-1), 1) := by decide +kernel
theorem dX9_pairings_9 : decode cX9_pairings 9 = .ok (.ireturn, 1) := by decide +kernel
theorem dX9_pairings_10 : decode cX9_pairings 10 = .ok (.aload_n 0, 1) := by decide +kernel
theorem dX9_pairings_11 : decode cX9_pairings 11 = .ok (.iload_n 1, 1) := by decide +kernel
theorem dX9_pairings_12 : decode cX9_pairings 12 = .ok (.invokevirtual 165, 3) := by decide +kernel
theorem dX9_pairings_15 : decode cX9_pairings 15 = .ok (.iconst 0, 1) := by decide +kernel
theorem dX9_pairings_16 : decode cX9_pairings 16 = .ok (.istore_n 2, 1) := by decide +kernel
theorem dX9_pairings_17 : decode cX9_pairings 17 = .ok (.iconst 0, 1) := by decide +kernel
theorem dX9_pairings_18 : decode cX9_pairings 18 = .ok (.istore_n 3, 1) := by decide +kernel
theorem dX9_pairings_19 : decode cX9_pairings 19 = .ok (.iload_n 3, 1) := by decide +kernel
theorem dX9_pairings_20 : decode cX9_pairings 20 = .ok (.aload_n 0, 1) := by decide +kernel
theorem dX9_pairings_21 : decode cX9_pairings 21 = .ok (.getfield 114, 3) := by decide +kernel
theorem dX9_pairings_24 : decode cX9_pairings 24 = .ok (.if_icmp .ge 54, 3) := by decide +kernel
theorem dX9_pairings_27 : decode cX9_pairings 27 = .ok (.iload_n 2, 1) := by decide +kernel
theorem dX9_pairings_28 : decode cX9_pairings 28 = .ok (.aload_n 0, 1) := by decide +kernel
theorem dX9_pairings_29 : decode cX9_pairings 29 = .ok (.aload_n 0, 1) := by decide +kernel
theorem dX9_pairings_30 : decode cX9_pairings 30 = .ok (.iload_n 3, 1) := by decide +kernel
theorem dX9_pairings_31 : decode cX9_pairings 31 = .ok (.invokevirtual 120, 3) := by decide +kernel
theorem dX9_pairings_34 : decode cX9_pairings 34 = .ok (.iconst 1, 1) := by decide +kernel
theorem dX9_pairings_35 : decode cX9_pairings 35 = .ok (.invokevirtual 63, 3) := by decide +kernel
theorem dX9_pairings_38 : decode cX9_pairings 38 = .ok (.aload_n 0, 1) := by decide +kernel
theorem dX9_pairings_39 : decode cX9_pairings 39 = .ok (.getfield 117, 3) := by decide +kernel
theorem dX9_pairings_42 : decode cX9_pairings 42 = .ok (.if_icmp .ne 27, 3) := by decide +kernel
theorem dX9_pairings_45 : decode cX9_pairings 45 = .ok (.iload_n 3, 1) := by decide +kernel
theorem dX9_pairings_46 : decode cX9_pairings 46 = .ok (.iconst 1, 1) := by decide +kernel
theorem dX9_pairings_47 : decode cX9_pairings 47 = .ok (.iadd, 1) := by decide +kernel
theorem dX9_pairings_48 : decode cX9_pairings 48 = .ok (.aload_n 0, 1) := by decide +kernel
theorem dX9_pairings_49 : decode cX9_pairings 49 = .ok (.getfield 114, 3) := by decide +kernel
theorem dX9_pairings_52 : decode cX9_pairings 52 = .ok (.if_icmp .eq 13, 3) := by decide +kernel
theorem dX9_pairings_55 : decode cX9_pairings 55 = .ok (.aload_n 0, 1) := by decide +kernel
theorem dX9_pairings_56 : decode cX9_pairings 56 = .ok (.iload_n 3, 1) := by decide +kernel
theorem dX9_pairings_57 : decode cX9_pairings 57 = .ok (.iconst 1, 1) := by decide +kernel
theorem dX9_pairings_58 : decode cX9_pairings 58 = .ok (.iadd, 1) := by decide +kernel
theorem dX9_pairings_59 : decode cX9_pairings 59 = .ok (.invokevirtual 126, 3) := by decide +kernel
theorem dX9_pairings_62 : decode cX9_pairings 62 = .ok (.ifCond .eq 7, 3) := by decide +kernel
theorem dX9_pairings_65 : decode cX9_pairings 65 = .ok (.iconst 1, 1) := by decide +kernel
theorem dX9_pairings_66 : decode cX9_pairings 66 = .ok (.goto 4, 3) := by decide +kernel
theorem dX9_pairings_69 : decode cX9_pairings 69 = .ok (.iconst 0, 1) := by decide +kernel
theorem dX9_pairings_70 : decode cX9_pairings 70 = .ok (.iadd, 1) := by decide +kernel
theorem dX9_pairings_71 : decode cX9_pairings 71 = .ok (.istore_n 2, 1) := by decide +kernel
theorem dX9_pairings_72 : decode cX9_pairings 72 = .ok (.iinc 3 1, 3) := by decide +kernel
theorem dX9_pairings_75 : decode cX9_pairings 75 = .ok (.goto (-56), 3) := by decide +kernel
theorem dX9_pairings_78 : decode cX9_pairings 78 = .ok (.iload_n 2, 1) := by decide +kernel
theorem dX9_pairings_79 : decode cX9_pairings 79 = .ok (.ireturn, 1) := by decide +kernel
theorem dX9_costOf_0 : decode cX9_costOf 0 = .ok (.aload_n 0, 1) := by decide +kernel
theorem dX9_costOf_1 : decode cX9_costOf 1 = .ok (.iload_n 1, 1) := by decide +kernel
theorem dX9_costOf_2 : decode cX9_costOf 2 = .ok (.invokevirtual 165, 3) := by decide +kernel
theorem dX9_costOf_5 : decode cX9_costOf 5 = .ok (.iconst 0, 1) := by decide +kernel
theorem dX9_costOf_6 : decode cX9_costOf 6 = .ok (.istore_n 3, 1) := by decide +kernel
theorem dX9_costOf_7 : decode cX9_costOf 7 = .ok (.iconst 0, 1) := by decide +kernel
theorem dX9_costOf_8 : decode cX9_costOf 8 = .ok (.istore 4, 2) := by decide +kernel
theorem dX9_costOf_10 : decode cX9_costOf 10 = .ok (.iconst 0, 1) := by decide +kernel
theorem dX9_costOf_11 : decode cX9_costOf 11 = .ok (.istore 5, 2) := by decide +kernel
theorem dX9_costOf_13 : decode cX9_costOf 13 = .ok (.iload 5, 2) := by decide +kernel
theorem dX9_costOf_15 : decode cX9_costOf 15 = .ok (.aload_n 0, 1) := by decide +kernel
theorem dX9_costOf_16 : decode cX9_costOf 16 = .ok (.getfield 114, 3) := by decide +kernel
theorem dX9_costOf_19 : decode cX9_costOf 19 = .ok (.if_icmp .ge 99, 3) := by decide +kernel
theorem dX9_costOf_22 : decode cX9_costOf 22 = .ok (.iload_n 3, 1) := by decide +kernel
theorem dX9_costOf_23 : decode cX9_costOf 23 = .ok (.aload_n 0, 1) := by decide +kernel
theorem dX9_costOf_24 : decode cX9_costOf 24 = .ok (.iload 5, 2) := by decide +kernel
theorem dX9_costOf_26 : decode cX9_costOf 26 = .ok (.invokevirtual 132, 3) := by decide +kernel
theorem dX9_costOf_29 : decode cX9_costOf 29 = .ok (.ifCond .eq 7, 3) := by decide +kernel
theorem dX9_costOf_32 : decode cX9_costOf 32 = .ok (.iconst 0, 1) := by decide +kernel
theorem dX9_costOf_33 : decode cX9_costOf 33 = .ok (.goto 21, 3) := by decide +kernel
theorem dX9_costOf_36 : decode cX9_costOf 36 = .ok (.aload_n 0, 1) := by decide +kernel
theorem dX9_costOf_37 : decode cX9_costOf 37 = .ok (.aload_n 0, 1) := by decide +kernel
theorem dX9_costOf_38 : decode cX9_costOf 38 = .ok (.iload 5, 2) := by decide +kernel
theorem dX9_costOf_40 : decode cX9_costOf 40 = .ok (.invokevirtual 120, 3) := by decide +kernel
theorem dX9_costOf_43 : decode cX9_costOf 43 = .ok (.invokevirtual 135, 3) := by decide +kernel
theorem dX9_costOf_46 : decode cX9_costOf 46 = .ok (.aload_n 0, 1) := by decide +kernel
theorem dX9_costOf_47 : decode cX9_costOf 47 = .ok (.getfield 9, 3) := by decide +kernel
theorem dX9_costOf_50 : decode cX9_costOf 50 = .ok (.bipush 8, 2) := by decide +kernel
theorem dX9_costOf_52 : decode cX9_costOf 52 = .ok (.iaload, 1) := by decide +kernel
theorem dX9_costOf_53 : decode cX9_costOf 53 = .ok (.imul, 1) := by decide +kernel
theorem dX9_costOf_54 : decode cX9_costOf 54 = .ok (.iadd, 1) := by decide +kernel
theorem dX9_costOf_55 : decode cX9_costOf 55 = .ok (.istore_n 3, 1) := by decide +kernel
theorem dX9_costOf_56 : decode cX9_costOf 56 = .ok (.iload 4, 2) := by decide +kernel
theorem dX9_costOf_58 : decode cX9_costOf 58 = .ok (.iload 5, 2) := by decide +kernel
theorem dX9_costOf_60 : decode cX9_costOf 60 = .ok (.iconst 1, 1) := by decide +kernel
theorem dX9_costOf_61 : decode cX9_costOf 61 = .ok (.iadd, 1) := by decide +kernel
theorem dX9_costOf_62 : decode cX9_costOf 62 = .ok (.aload_n 0, 1) := by decide +kernel
theorem dX9_costOf_63 : decode cX9_costOf 63 = .ok (.getfield 114, 3) := by decide +kernel
theorem dX9_costOf_66 : decode cX9_costOf 66 = .ok (.if_icmp .ge 42, 3) := by decide +kernel
theorem dX9_costOf_69 : decode cX9_costOf 69 = .ok (.aload_n 0, 1) := by decide +kernel
theorem dX9_costOf_70 : decode cX9_costOf 70 = .ok (.iload 5, 2) := by decide +kernel
theorem dX9_costOf_72 : decode cX9_costOf 72 = .ok (.iconst 1, 1) := by decide +kernel
theorem dX9_costOf_73 : decode cX9_costOf 73 = .ok (.iadd, 1) := by decide +kernel
theorem dX9_costOf_74 : decode cX9_costOf 74 = .ok (.invokevirtual 126, 3) := by decide +kernel
theorem dX9_costOf_77 : decode cX9_costOf 77 = .ok (.ifCond .eq 31, 3) := by decide +kernel
theorem dX9_costOf_80 : decode cX9_costOf 80 = .ok (.aload_n 0, 1) := by decide +kernel
theorem dX9_costOf_81 : decode cX9_costOf 81 = .ok (.aload_n 0, 1) := by decide +kernel
theorem dX9_costOf_82 : decode cX9_costOf 82 = .ok (.iload 5, 2) := by decide +kernel
theorem dX9_costOf_84 : decode cX9_costOf 84 = .ok (.invokevirtual 120, 3) := by decide +kernel
theorem dX9_costOf_87 : decode cX9_costOf 87 = .ok (.iconst 1, 1) := by decide +kernel
theorem dX9_costOf_88 : decode cX9_costOf 88 = .ok (.invokevirtual 63, 3) := by decide +kernel
theorem dX9_costOf_91 : decode cX9_costOf 91 = .ok (.aload_n 0, 1) := by decide +kernel
theorem dX9_costOf_92 : decode cX9_costOf 92 = .ok (.getfield 117, 3) := by decide +kernel
theorem dX9_costOf_95 : decode cX9_costOf 95 = .ok (.if_icmp .eq 13, 3) := by decide +kernel
theorem dX9_costOf_98 : decode cX9_costOf 98 = .ok (.aload_n 0, 1) := by decide +kernel
theorem dX9_costOf_99 : decode cX9_costOf 99 = .ok (.getfield 9, 3) := by decide +kernel
theorem dX9_costOf_102 : decode cX9_costOf 102 = .ok (.bipush 9, 2) := by decide +kernel
theorem dX9_costOf_104 : decode cX9_costOf 104 = .ok (.iaload, 1) := by decide +kernel
theorem dX9_costOf_105 : decode cX9_costOf 105 = .ok (.goto 4, 3) := by decide +kernel
theorem dX9_costOf_108 : decode cX9_costOf 108 = .ok (.iconst 0, 1) := by decide +kernel
theorem dX9_costOf_109 : decode cX9_costOf 109 = .ok (.iadd, 1) := by decide +kernel
theorem dX9_costOf_110 : decode cX9_costOf 110 = .ok (.istore 4, 2) := by decide +kernel
theorem dX9_costOf_112 : decode cX9_costOf 112 = .ok (.iinc 5 1, 3) := by decide +kernel
theorem dX9_costOf_115 : decode cX9_costOf 115 = .ok (.goto (-102), 3) := by decide +kernel
theorem dX9_costOf_118 : decode cX9_costOf 118 = .ok (.iload_n 2, 1) := by decide +kernel
theorem dX9_costOf_119 : decode cX9_costOf 119 = .ok (.ifCond .ne 7, 3) := by decide +kernel
theorem dX9_costOf_122 : decode cX9_costOf 122 = .ok (.iload_n 3, 1) := by decide +kernel
theorem dX9_costOf_123 : decode cX9_costOf 123 = .ok (.goto 17, 3) := by decide +kernel
theorem dX9_costOf_126 : decode cX9_costOf 126 = .ok (.iload_n 2, 1) := by decide +kernel
theorem dX9_costOf_127 : decode cX9_costOf 127 = .ok (.iconst 1, 1) := by decide +kernel
theorem dX9_costOf_128 : decode cX9_costOf 128 = .ok (.if_icmp .ne 8, 3) := by decide +kernel
theorem dX9_costOf_131 : decode cX9_costOf 131 = .ok (.iload 4, 2) := by decide +kernel
theorem dX9_costOf_133 : decode cX9_costOf 133 = .ok (.goto 7, 3) := by decide +kernel
theorem dX9_costOf_136 : decode cX9_costOf 136 = .ok (.iload_n 3, 1) := by decide +kernel
theorem dX9_costOf_137 : decode cX9_costOf 137 = .ok (.iload 4, 2) := by decide +kernel
theorem dX9_costOf_139 : decode cX9_costOf 139 = .ok (.iadd, 1) := by decide +kernel
theorem dX9_costOf_140 : decode cX9_costOf 140 = .ok (.ireturn, 1) := by decide +kernel
theorem dX9_cost_0 : decode cX9_cost 0 = .ok (.iload_n 1, 1) := by decide +kernel
theorem dX9_cost_1 : decode cX9_cost 1 = .ok (.iconst (-1), 1) := by decide +kernel
theorem dX9_cost_2 : decode cX9_cost 2 = .ok (.if_icmp .eq 11, 3) := by decide +kernel
theorem dX9_cost_5 : decode cX9_cost 5 = .ok (.aload_n 0, 1) := by decide +kernel
theorem dX9_cost_6 : decode cX9_cost 6 = .ok (.iload_n 1, 1) := by decide +kernel
theorem dX9_cost_7 : decode cX9_cost 7 = .ok (.invokevirtual 174, 3) := by decide +kernel
theorem dX9_cost_10 : decode cX9_cost 10 = .ok (.ifCond .eq 12, 3) := by decide +kernel
theorem dX9_cost_13 : decode cX9_cost 13 = .ok (.iload_n 2, 1) := by decide +kernel
theorem dX9_cost_14 : decode cX9_cost 14 = .ok (.iconst 0, 1) := by decide +kernel
theorem dX9_cost_15 : decode cX9_cost 15 = .ok (.iconst 2, 1) := by decide +kernel
theorem dX9_cost_16 : decode cX9_cost 16 = .ok (.invokestatic 59, 3) := by decide +kernel
theorem dX9_cost_19 : decode cX9_cost 19 = .ok (.ifCond .ne 5, 3) := by decide +kernel
theorem dX9_cost_22 : decode cX9_cost 22 = .ok (.iconst (-1), 1) := by decide +kernel
theorem dX9_cost_23 : decode cX9_cost 23 = .ok (.ireturn, 1) := by decide +kernel
theorem dX9_cost_24 : decode cX9_cost 24 = .ok (.iconst 0, 1) := by decide +kernel
theorem dX9_cost_25 : decode cX9_cost 25 = .ok (.istore_n 3, 1) := by decide +kernel
theorem dX9_cost_26 : decode cX9_cost 26 = .ok (.iconst 0, 1) := by decide +kernel
theorem dX9_cost_27 : decode cX9_cost 27 = .ok (.istore 4, 2) := by decide +kernel
theorem dX9_cost_29 : decode cX9_cost 29 = .ok (.iload 4, 2) := by decide +kernel
theorem dX9_cost_31 : decode cX9_cost 31 = .ok (.aload_n 0, 1) := by decide +kernel
theorem dX9_cost_32 : decode cX9_cost 32 = .ok (.getfield 9, 3) := by decide +kernel
theorem dX9_cost_35 : decode cX9_cost 35 = .ok (.iconst 1, 1) := by decide +kernel
theorem dX9_cost_36 : decode cX9_cost 36 = .ok (.iaload, 1) := by decide +kernel
theorem dX9_cost_37 : decode cX9_cost 37 = .ok (.if_icmp .ge 34, 3) := by decide +kernel
theorem dX9_cost_40 : decode cX9_cost 40 = .ok (.iload_n 3, 1) := by decide +kernel
theorem dX9_cost_41 : decode cX9_cost 41 = .ok (.iload_n 1, 1) := by decide +kernel
theorem dX9_cost_42 : decode cX9_cost 42 = .ok (.iconst (-1), 1) := by decide +kernel
theorem dX9_cost_43 : decode cX9_cost 43 = .ok (.if_icmp .eq 9, 3) := by decide +kernel
theorem dX9_cost_46 : decode cX9_cost 46 = .ok (.iload_n 1, 1) := by decide +kernel
theorem dX9_cost_47 : decode cX9_cost 47 = .ok (.iload 4, 2) := by decide +kernel
theorem dX9_cost_49 : decode cX9_cost 49 = .ok (.if_icmp .ne 13, 3) := by decide +kernel
theorem dX9_cost_52 : decode cX9_cost 52 = .ok (.aload_n 0, 1) := by decide +kernel
theorem dX9_cost_53 : decode cX9_cost 53 = .ok (.iload 4, 2) := by decide +kernel
theorem dX9_cost_55 : decode cX9_cost 55 = .ok (.iload_n 2, 1) := by decide +kernel
theorem dX9_cost_56 : decode cX9_cost 56 = .ok (.invokevirtual 200, 3) := by decide +kernel
theorem dX9_cost_59 : decode cX9_cost 59 = .ok (.goto 4, 3) := by decide +kernel
theorem dX9_cost_62 : decode cX9_cost 62 = .ok (.iconst 0, 1) := by decide +kernel
theorem dX9_cost_63 : decode cX9_cost 63 = .ok (.iadd, 1) := by decide +kernel
theorem dX9_cost_64 : decode cX9_cost 64 = .ok (.istore_n 3, 1) := by decide +kernel
theorem dX9_cost_65 : decode cX9_cost 65 = .ok (.iinc 4 1, 3) := by decide +kernel
theorem dX9_cost_68 : decode cX9_cost 68 = .ok (.goto (-39), 3) := by decide +kernel
theorem dX9_cost_71 : decode cX9_cost 71 = .ok (.iload_n 3, 1) := by decide +kernel
theorem dX9_cost_72 : decode cX9_cost 72 = .ok (.ireturn, 1) := by decide +kernel
theorem dX9_isOpen_0 : decode cX9_isOpen 0 = .ok (.aload_n 0, 1) := by decide +kernel
theorem dX9_isOpen_1 : decode cX9_isOpen 1 = .ok (.iload_n 1, 1) := by decide +kernel
theorem dX9_isOpen_2 : decode cX9_isOpen 2 = .ok (.iconst 4, 1) := by decide +kernel
theorem dX9_isOpen_3 : decode cX9_isOpen 3 = .ok (.invokevirtual 63, 3) := by decide +kernel
theorem dX9_isOpen_6 : decode cX9_isOpen 6 = .ok (.ifCond .ne 15, 3) := by decide +kernel
theorem dX9_isOpen_9 : decode cX9_isOpen 9 = .ok (.aload_n 0, 1) := by decide +kernel
theorem dX9_isOpen_10 : decode cX9_isOpen 10 = .ok (.iload_n 1, 1) := by decide +kernel
theorem dX9_isOpen_11 : decode cX9_isOpen 11 = .ok (.invokevirtual 104, 3) := by decide +kernel
theorem dX9_isOpen_14 : decode cX9_isOpen 14 = .ok (.ifCond .ge 7, 3) := by decide +kernel
theorem dX9_isOpen_17 : decode cX9_isOpen 17 = .ok (.iconst 1, 1) := by decide +kernel
theorem dX9_isOpen_18 : decode cX9_isOpen 18 = .ok (.goto 4, 3) := by decide +kernel
theorem dX9_isOpen_21 : decode cX9_isOpen 21 = .ok (.iconst 0, 1) := by decide +kernel
theorem dX9_isOpen_22 : decode cX9_isOpen 22 = .ok (.ireturn, 1) := by decide +kernel
theorem dX9_findOpen_0 : decode cX9_findOpen 0 = .ok (.aload_n 0, 1) := by decide +kernel
theorem dX9_findOpen_1 : decode cX9_findOpen 1 = .ok (.iconst 0, 1) := by decide +kernel
theorem dX9_findOpen_2 : decode cX9_findOpen 2 = .ok (.putfield 203, 3) := by decide +kernel
theorem dX9_findOpen_5 : decode cX9_findOpen 5 = .ok (.iconst 0, 1) := by decide +kernel
theorem dX9_findOpen_6 : decode cX9_findOpen 6 = .ok (.istore_n 1, 1) := by decide +kernel
theorem dX9_findOpen_7 : decode cX9_findOpen 7 = .ok (.iload_n 1, 1) := by decide +kernel
theorem dX9_findOpen_8 : decode cX9_findOpen 8 = .ok (.aload_n 0, 1) := by decide +kernel
theorem dX9_findOpen_9 : decode cX9_findOpen 9 = .ok (.getfield 9, 3) := by decide +kernel
theorem dX9_findOpen_12 : decode cX9_findOpen 12 = .ok (.iconst 0, 1) := by decide +kernel
theorem dX9_findOpen_13 : decode cX9_findOpen 13 = .ok (.iaload, 1) := by decide +kernel
theorem dX9_findOpen_14 : decode cX9_findOpen 14 = .ok (.if_icmp .ge 85, 3) := by decide +kernel
theorem dX9_findOpen_17 : decode cX9_findOpen 17 = .ok (.aload_n 0, 1) := by decide +kernel
theorem dX9_findOpen_18 : decode cX9_findOpen 18 = .ok (.iload_n 1, 1) := by decide +kernel
theorem dX9_findOpen_19 : decode cX9_findOpen 19 = .ok (.invokevirtual 206, 3) := by decide +kernel
theorem dX9_findOpen_22 : decode cX9_findOpen 22 = .ok (.ifCond .eq 71, 3) := by decide +kernel
theorem dX9_findOpen_25 : decode cX9_findOpen 25 = .ok (.aload_n 0, 1) := by decide +kernel
theorem dX9_findOpen_26 : decode cX9_findOpen 26 = .ok (.getfield 203, 3) := by decide +kernel
theorem dX9_findOpen_29 : decode cX9_findOpen 29 = .ok (.istore_n 2, 1) := by decide +kernel
theorem dX9_findOpen_30 : decode cX9_findOpen 30 = .ok (.iload_n 2, 1) := by decide +kernel
theorem dX9_findOpen_31 : decode cX9_findOpen 31 = .ok (.ifCond .le 45, 3) := by decide +kernel
theorem dX9_findOpen_34 : decode cX9_findOpen 34 = .ok (.aload_n 0, 1) := by decide +kernel
theorem dX9_findOpen_35 : decode cX9_findOpen 35 = .ok (.aload_n 0, 1) := by decide +kernel
theorem dX9_findOpen_36 : decode cX9_findOpen 36 = .ok (.getfield 25, 3) := by decide +kernel
theorem dX9_findOpen_39 : decode cX9_findOpen 39 = .ok (.iload_n 2, 1) := by decide +kernel
theorem dX9_findOpen_40 : decode cX9_findOpen 40 = .ok (.iconst 1, 1) := by decide +kernel
theorem dX9_findOpen_41 : decode cX9_findOpen 41 = .ok (.isub, 1) := by decide +kernel
theorem dX9_findOpen_42 : decode cX9_findOpen 42 = .ok (.iaload, 1) := by decide +kernel
theorem dX9_findOpen_43 : decode cX9_findOpen 43 = .ok (.iconst 2, 1) := by decide +kernel
theorem dX9_findOpen_44 : decode cX9_findOpen 44 = .ok (.invokevirtual 63, 3) := by decide +kernel
theorem dX9_findOpen_47 : decode cX9_findOpen 47 = .ok (.aload_n 0, 1) := by decide +kernel
theorem dX9_findOpen_48 : decode cX9_findOpen 48 = .ok (.iload_n 1, 1) := by decide +kernel
theorem dX9_findOpen_49 : decode cX9_findOpen 49 = .ok (.iconst 2, 1) := by decide +kernel
theorem dX9_findOpen_50 : decode cX9_findOpen 50 = .ok (.invokevirtual 63, 3) := by decide +kernel
theorem dX9_findOpen_53 : decode cX9_findOpen 53 = .ok (.if_icmp .le 23, 3) := by decide +kernel
theorem dX9_findOpen_56 : decode cX9_findOpen 56 = .ok (.aload_n 0, 1) := by decide +kernel
theorem dX9_findOpen_57 : decode cX9_findOpen 57 = .ok (.getfield 25, 3) := by decide +kernel
theorem dX9_findOpen_60 : decode cX9_findOpen 60 = .ok (.iload_n 2, 1) := by decide +kernel
theorem dX9_findOpen_61 : decode cX9_findOpen 61 = .ok (.aload_n 0, 1) := by decide +kernel
theorem dX9_findOpen_62 : decode cX9_findOpen 62 = .ok (.getfield 25, 3) := by decide +kernel
theorem dX9_findOpen_65 : decode cX9_findOpen 65 = .ok (.iload_n 2, 1) := by decide +kernel
theorem dX9_findOpen_66 : decode cX9_findOpen 66 = .ok (.iconst 1, 1) := by decide +kernel
theorem dX9_findOpen_67 : decode cX9_findOpen 67 = .ok (.isub, 1) := by decide +kernel
theorem dX9_findOpen_68 : decode cX9_findOpen 68 = .ok (.iaload, 1) := by decide +kernel
theorem dX9_findOpen_69 : decode cX9_findOpen 69 = .ok (.iastore, 1) := by decide +kernel
theorem dX9_findOpen_70 : decode cX9_findOpen 70 = .ok (.iinc 2 (-1), 3) := by decide +kernel
theorem dX9_findOpen_73 : decode cX9_findOpen 73 = .ok (.goto (-43), 3) := by decide +kernel
theorem dX9_findOpen_76 : decode cX9_findOpen 76 = .ok (.aload_n 0, 1) := by decide +kernel
theorem dX9_findOpen_77 : decode cX9_findOpen 77 = .ok (.getfield 25, 3) := by decide +kernel
theorem dX9_findOpen_80 : decode cX9_findOpen 80 = .ok (.iload_n 2, 1) := by decide +kernel
theorem dX9_findOpen_81 : decode cX9_findOpen 81 = .ok (.iload_n 1, 1) := by decide +kernel
theorem dX9_findOpen_82 : decode cX9_findOpen 82 = .ok (.iastore, 1) := by decide +kernel
theorem dX9_findOpen_83 : decode cX9_findOpen 83 = .ok (.aload_n 0, 1) := by decide +kernel
theorem dX9_findOpen_84 : decode cX9_findOpen 84 = .ok (.dup, 1) := by decide +kernel
theorem dX9_findOpen_85 : decode cX9_findOpen 85 = .ok (.getfield 203, 3) := by decide +kernel
theorem dX9_findOpen_88 : decode cX9_findOpen 88 = .ok (.iconst 1, 1) := by decide +kernel
theorem dX9_findOpen_89 : decode cX9_findOpen 89 = .ok (.iadd, 1) := by decide +kernel
theorem dX9_findOpen_90 : decode cX9_findOpen 90 = .ok (.putfield 203, 3) := by decide +kernel
theorem dX9_findOpen_93 : decode cX9_findOpen 93 = .ok (.iinc 1 1, 3) := by decide +kernel
theorem dX9_findOpen_96 : decode cX9_findOpen 96 = .ok (.goto (-89), 3) := by decide +kernel
theorem dX9_findOpen_99 : decode cX9_findOpen 99 = .ok (.return_, 1) := by decide +kernel
theorem dX9_openCount_0 : decode cX9_openCount 0 = .ok (.aload_n 0, 1) := by decide +kernel
theorem dX9_openCount_1 : decode cX9_openCount 1 = .ok (.invokevirtual 209, 3) := by decide +kernel
theorem dX9_openCount_4 : decode cX9_openCount 4 = .ok (.aload_n 0, 1) := by decide +kernel
theorem dX9_openCount_5 : decode cX9_openCount 5 = .ok (.getfield 203, 3) := by decide +kernel
theorem dX9_openCount_8 : decode cX9_openCount 8 = .ok (.ireturn, 1) := by decide +kernel
theorem dX9_open_0 : decode cX9_open 0 = .ok (.aload_n 0, 1) := by decide +kernel
theorem dX9_open_1 : decode cX9_open 1 = .ok (.invokevirtual 209, 3) := by decide +kernel
theorem dX9_open_4 : decode cX9_open 4 = .ok (.iload_n 1, 1) := by decide +kernel
theorem dX9_open_5 : decode cX9_open 5 = .ok (.iconst 0, 1) := by decide +kernel
theorem dX9_open_6 : decode cX9_open 6 = .ok (.aload_n 0, 1) := by decide +kernel
theorem dX9_open_7 : decode cX9_open 7 = .ok (.getfield 203, 3) := by decide +kernel
theorem dX9_open_10 : decode cX9_open 10 = .ok (.iconst 1, 1) := by decide +kernel
theorem dX9_open_11 : decode cX9_open 11 = .ok (.isub, 1) := by decide +kernel
theorem dX9_open_12 : decode cX9_open 12 = .ok (.invokestatic 59, 3) := by decide +kernel
theorem dX9_open_15 : decode cX9_open 15 = .ok (.ifCond .eq 12, 3) := by decide +kernel
theorem dX9_open_18 : decode cX9_open 18 = .ok (.aload_n 0, 1) := by decide +kernel
theorem dX9_open_19 : decode cX9_open 19 = .ok (.getfield 25, 3) := by decide +kernel
theorem dX9_open_22 : decode cX9_open 22 = .ok (.iload_n 1, 1) := by decide +kernel
theorem dX9_open_23 : decode cX9_open 23 = .ok (.iaload, 1) := by decide +kernel
theorem dX9_open_24 : decode cX9_open 24 = .ok (.goto 5, 3) := by decide +kernel
theorem dX9_open_27 : decode cX9_open 27 = .ok (.bipush (-2), 2) := by decide +kernel
theorem dX9_open_29 : decode cX9_open 29 = .ok (.ireturn, 1) := by decide +kernel
theorem dX9_reorder_0 : decode cX9_reorder 0 = .ok (.aload_n 0, 1) := by decide +kernel
theorem dX9_reorder_1 : decode cX9_reorder 1 = .ok (.iload_n 1, 1) := by decide +kernel
theorem dX9_reorder_2 : decode cX9_reorder 2 = .ok (.iconst 3, 1) := by decide +kernel
theorem dX9_reorder_3 : decode cX9_reorder 3 = .ok (.invokevirtual 94, 3) := by decide +kernel
theorem dX9_reorder_6 : decode cX9_reorder 6 = .ok (.istore_n 2, 1) := by decide +kernel
theorem dX9_reorder_7 : decode cX9_reorder 7 = .ok (.aload_n 0, 1) := by decide +kernel
theorem dX9_reorder_8 : decode cX9_reorder 8 = .ok (.iconst 0, 1) := by decide +kernel
theorem dX9_reorder_9 : decode cX9_reorder 9 = .ok (.putfield 114, 3) := by decide +kernel
theorem dX9_reorder_12 : decode cX9_reorder 12 = .ok (.iconst 0, 1) := by decide +kernel
theorem dX9_reorder_13 : decode cX9_reorder 13 = .ok (.istore_n 3, 1) := by decide +kernel
theorem dX9_reorder_14 : decode cX9_reorder 14 = .ok (.iload_n 3, 1) := by decide +kernel
theorem dX9_reorder_15 : decode cX9_reorder 15 = .ok (.iload_n 2, 1) := by decide +kernel
theorem dX9_reorder_16 : decode cX9_reorder 16 = .ok (.if_icmp .ge 42, 3) := by decide +kernel
theorem dX9_reorder_19 : decode cX9_reorder 19 = .ok (.aload_n 0, 1) := by decide +kernel
theorem dX9_reorder_20 : decode cX9_reorder 20 = .ok (.iload_n 1, 1) := by decide +kernel
theorem dX9_reorder_21 : decode cX9_reorder 21 = .ok (.iconst 4, 1) := by decide +kernel
theorem dX9_reorder_22 : decode cX9_reorder 22 = .ok (.iload_n 3, 1) := by decide +kernel
theorem dX9_reorder_23 : decode cX9_reorder 23 = .ok (.iadd, 1) := by decide +kernel
theorem dX9_reorder_24 : decode cX9_reorder 24 = .ok (.invokevirtual 94, 3) := by decide +kernel
theorem dX9_reorder_27 : decode cX9_reorder 27 = .ok (.istore 4, 2) := by decide +kernel
theorem dX9_reorder_29 : decode cX9_reorder 29 = .ok (.aload_n 0, 1) := by decide +kernel
theorem dX9_reorder_30 : decode cX9_reorder 30 = .ok (.iload 4, 2) := by decide +kernel
theorem dX9_reorder_32 : decode cX9_reorder 32 = .ok (.iconst 2, 1) := by decide +kernel
theorem dX9_reorder_33 : decode cX9_reorder 33 = .ok (.idiv, 1) := by decide +kernel
theorem dX9_reorder_34 : decode cX9_reorder 34 = .ok (.iload 4, 2) := by decide +kernel
theorem dX9_reorder_36 : decode cX9_reorder 36 = .ok (.iconst 2, 1) := by decide +kernel
theorem dX9_reorder_37 : decode cX9_reorder 37 = .ok (.irem, 1) := by decide +kernel
theorem dX9_reorder_38 : decode cX9_reorder 38 = .ok (.iconst 1, 1) := by decide +kernel
theorem dX9_reorder_39 : decode cX9_reorder 39 = .ok (.if_icmp .ne 7, 3) := by decide +kernel
theorem dX9_reorder_42 : decode cX9_reorder 42 = .ok (.iconst 1, 1) := by decide +kernel
theorem dX9_reorder_43 : decode cX9_reorder 43 = .ok (.goto 4, 3) := by decide +kernel
theorem dX9_reorder_46 : decode cX9_reorder 46 = .ok (.iconst 0, 1) := by decide +kernel
theorem dX9_reorder_47 : decode cX9_reorder 47 = .ok (.invokevirtual 157, 3) := by decide +kernel
theorem dX9_reorder_50 : decode cX9_reorder 50 = .ok (.istore 5, 2) := by decide +kernel
theorem dX9_reorder_52 : decode cX9_reorder 52 = .ok (.iinc 3 1, 3) := by decide +kernel
theorem dX9_reorder_55 : decode cX9_reorder 55 = .ok (.goto (-41), 3) := by decide +kernel
theorem dX9_reorder_58 : decode cX9_reorder 58 = .ok (.aload_n 0, 1) := by decide +kernel
theorem dX9_reorder_59 : decode cX9_reorder 59 = .ok (.iload_n 1, 1) := by decide +kernel
theorem dX9_reorder_60 : decode cX9_reorder 60 = .ok (.invokevirtual 171, 3) := by decide +kernel
theorem dX9_reorder_63 : decode cX9_reorder 63 = .ok (.return_, 1) := by decide +kernel
theorem dX9_delay_0 : decode cX9_delay 0 = .ok (.aload_n 0, 1) := by decide +kernel
theorem dX9_delay_1 : decode cX9_delay 1 = .ok (.iload_n 1, 1) := by decide +kernel
theorem dX9_delay_2 : decode cX9_delay 2 = .ok (.invokevirtual 100, 3) := by decide +kernel
theorem dX9_delay_5 : decode cX9_delay 5 = .ok (.ifCond .eq 16, 3) := by decide +kernel
theorem dX9_delay_8 : decode cX9_delay 8 = .ok (.iload_n 2, 1) := by decide +kernel
theorem dX9_delay_9 : decode cX9_delay 9 = .ok (.sipush (-600), 3) := by decide +kernel
theorem dX9_delay_12 : decode cX9_delay 12 = .ok (.sipush 600, 3) := by decide +kernel
theorem dX9_delay_15 : decode cX9_delay 15 = .ok (.invokestatic 59, 3) := by decide +kernel
theorem dX9_delay_18 : decode cX9_delay 18 = .ok (.ifCond .ne 5, 3) := by decide +kernel
theorem dX9_delay_21 : decode cX9_delay 21 = .ok (.iconst (-1), 1) := by decide +kernel
theorem dX9_delay_22 : decode cX9_delay 22 = .ok (.ireturn, 1) := by decide +kernel
theorem dX9_delay_23 : decode cX9_delay 23 = .ok (.aload_n 0, 1) := by decide +kernel
theorem dX9_delay_24 : decode cX9_delay 24 = .ok (.iload_n 1, 1) := by decide +kernel
theorem dX9_delay_25 : decode cX9_delay 25 = .ok (.iconst 2, 1) := by decide +kernel
theorem dX9_delay_26 : decode cX9_delay 26 = .ok (.invokevirtual 63, 3) := by decide +kernel
theorem dX9_delay_29 : decode cX9_delay 29 = .ok (.iload_n 2, 1) := by decide +kernel
theorem dX9_delay_30 : decode cX9_delay 30 = .ok (.iadd, 1) := by decide +kernel
theorem dX9_delay_31 : decode cX9_delay 31 = .ok (.istore_n 3, 1) := by decide +kernel
theorem dX9_delay_32 : decode cX9_delay 32 = .ok (.iload_n 3, 1) := by decide +kernel
theorem dX9_delay_33 : decode cX9_delay 33 = .ok (.ifCond .lt 17, 3) := by decide +kernel
theorem dX9_delay_36 : decode cX9_delay 36 = .ok (.aload_n 0, 1) := by decide +kernel
theorem dX9_delay_37 : decode cX9_delay 37 = .ok (.iload_n 1, 1) := by decide +kernel
theorem dX9_delay_38 : decode cX9_delay 38 = .ok (.iconst 3, 1) := by decide +kernel
theorem dX9_delay_39 : decode cX9_delay 39 = .ok (.invokevirtual 63, 3) := by decide +kernel
theorem dX9_delay_42 : decode cX9_delay 42 = .ok (.iload_n 2, 1) := by decide +kernel
theorem dX9_delay_43 : decode cX9_delay 43 = .ok (.iadd, 1) := by decide +kernel
theorem dX9_delay_44 : decode cX9_delay 44 = .ok (.sipush 6000, 3) := by decide +kernel
theorem dX9_delay_47 : decode cX9_delay 47 = .ok (.if_icmp .lt 6, 3) := by decide +kernel
theorem dX9_delay_50 : decode cX9_delay 50 = .ok (.bipush (-5), 2) := by decide +kernel
theorem dX9_delay_52 : decode cX9_delay 52 = .ok (.ireturn, 1) := by decide +kernel
theorem dX9_delay_53 : decode cX9_delay 53 = .ok (.aload_n 0, 1) := by decide +kernel
theorem dX9_delay_54 : decode cX9_delay 54 = .ok (.iload_n 1, 1) := by decide +kernel
theorem dX9_delay_55 : decode cX9_delay 55 = .ok (.aload_n 0, 1) := by decide +kernel
theorem dX9_delay_56 : decode cX9_delay 56 = .ok (.iload_n 1, 1) := by decide +kernel
theorem dX9_delay_57 : decode cX9_delay 57 = .ok (.iconst 0, 1) := by decide +kernel
theorem dX9_delay_58 : decode cX9_delay 58 = .ok (.invokevirtual 63, 3) := by decide +kernel
theorem dX9_delay_61 : decode cX9_delay 61 = .ok (.aload_n 0, 1) := by decide +kernel
theorem dX9_delay_62 : decode cX9_delay 62 = .ok (.iload_n 1, 1) := by decide +kernel
theorem dX9_delay_63 : decode cX9_delay 63 = .ok (.iconst 1, 1) := by decide +kernel
theorem dX9_delay_64 : decode cX9_delay 64 = .ok (.invokevirtual 63, 3) := by decide +kernel
theorem dX9_delay_67 : decode cX9_delay 67 = .ok (.iload_n 3, 1) := by decide +kernel
theorem dX9_delay_68 : decode cX9_delay 68 = .ok (.invokevirtual 84, 3) := by decide +kernel
theorem dX9_delay_71 : decode cX9_delay 71 = .ok (.ifCond .eq 6, 3) := by decide +kernel
theorem dX9_delay_74 : decode cX9_delay 74 = .ok (.bipush (-4), 2) := by decide +kernel
theorem dX9_delay_76 : decode cX9_delay 76 = .ok (.ireturn, 1) := by decide +kernel
theorem dX9_delay_77 : decode cX9_delay 77 = .ok (.aload_n 0, 1) := by decide +kernel
theorem dX9_delay_78 : decode cX9_delay 78 = .ok (.invokevirtual 88, 3) := by decide +kernel
theorem dX9_delay_81 : decode cX9_delay 81 = .ok (.aload_n 0, 1) := by decide +kernel
theorem dX9_delay_82 : decode cX9_delay 82 = .ok (.getfield 9, 3) := by decide +kernel
theorem dX9_delay_85 : decode cX9_delay 85 = .ok (.bipush 10, 2) := by decide +kernel
theorem dX9_delay_87 : decode cX9_delay 87 = .ok (.iconst 5, 1) := by decide +kernel
theorem dX9_delay_88 : decode cX9_delay 88 = .ok (.iload_n 1, 1) := by decide +kernel
theorem dX9_delay_89 : decode cX9_delay 89 = .ok (.imul, 1) := by decide +kernel
theorem dX9_delay_90 : decode cX9_delay 90 = .ok (.iadd, 1) := by decide +kernel
theorem dX9_delay_91 : decode cX9_delay 91 = .ok (.iconst 2, 1) := by decide +kernel
theorem dX9_delay_92 : decode cX9_delay 92 = .ok (.iadd, 1) := by decide +kernel
theorem dX9_delay_93 : decode cX9_delay 93 = .ok (.dup2, 1) := by decide +kernel
theorem dX9_delay_94 : decode cX9_delay 94 = .ok (.iaload, 1) := by decide +kernel
theorem dX9_delay_95 : decode cX9_delay 95 = .ok (.iload_n 2, 1) := by decide +kernel
theorem dX9_delay_96 : decode cX9_delay 96 = .ok (.iadd, 1) := by decide +kernel
theorem dX9_delay_97 : decode cX9_delay 97 = .ok (.iastore, 1) := by decide +kernel
theorem dX9_delay_98 : decode cX9_delay 98 = .ok (.aload_n 0, 1) := by decide +kernel
theorem dX9_delay_99 : decode cX9_delay 99 = .ok (.getfield 9, 3) := by decide +kernel
theorem dX9_delay_102 : decode cX9_delay 102 = .ok (.bipush 10, 2) := by decide +kernel
theorem dX9_delay_104 : decode cX9_delay 104 = .ok (.iconst 5, 1) := by decide +kernel
theorem dX9_delay_105 : decode cX9_delay 105 = .ok (.iload_n 1, 1) := by decide +kernel
theorem dX9_delay_106 : decode cX9_delay 106 = .ok (.imul, 1) := by decide +kernel
theorem dX9_delay_107 : decode cX9_delay 107 = .ok (.iadd, 1) := by decide +kernel
theorem dX9_delay_108 : decode cX9_delay 108 = .ok (.iconst 3, 1) := by decide +kernel
theorem dX9_delay_109 : decode cX9_delay 109 = .ok (.iadd, 1) := by decide +kernel
theorem dX9_delay_110 : decode cX9_delay 110 = .ok (.dup2, 1) := by decide +kernel
theorem dX9_delay_111 : decode cX9_delay 111 = .ok (.iaload, 1) := by decide +kernel
theorem dX9_delay_112 : decode cX9_delay 112 = .ok (.iload_n 2, 1) := by decide +kernel
theorem dX9_delay_113 : decode cX9_delay 113 = .ok (.iadd, 1) := by decide +kernel
theorem dX9_delay_114 : decode cX9_delay 114 = .ok (.iastore, 1) := by decide +kernel
theorem dX9_delay_115 : decode cX9_delay 115 = .ok (.iconst 0, 1) := by decide +kernel
theorem dX9_delay_116 : decode cX9_delay 116 = .ok (.istore 4, 2) := by decide +kernel
theorem dX9_delay_118 : decode cX9_delay 118 = .ok (.iconst 0, 1) := by decide +kernel
theorem dX9_delay_119 : decode cX9_delay 119 = .ok (.istore 5, 2) := by decide +kernel
theorem dX9_delay_121 : decode cX9_delay 121 = .ok (.iload 5, 2) := by decide +kernel
theorem dX9_delay_123 : decode cX9_delay 123 = .ok (.aload_n 0, 1) := by decide +kernel
theorem dX9_delay_124 : decode cX9_delay 124 = .ok (.getfield 9, 3) := by decide +kernel
theorem dX9_delay_127 : decode cX9_delay 127 = .ok (.iconst 1, 1) := by decide +kernel
theorem dX9_delay_128 : decode cX9_delay 128 = .ok (.iaload, 1) := by decide +kernel
theorem dX9_delay_129 : decode cX9_delay 129 = .ok (.if_icmp .ge 39, 3) := by decide +kernel
theorem dX9_delay_132 : decode cX9_delay 132 = .ok (.aload_n 0, 1) := by decide +kernel
theorem dX9_delay_133 : decode cX9_delay 133 = .ok (.iload 5, 2) := by decide +kernel
theorem dX9_delay_135 : decode cX9_delay 135 = .ok (.invokevirtual 212, 3) := by decide +kernel
theorem dX9_delay_138 : decode cX9_delay 138 = .ok (.aload_n 0, 1) := by decide +kernel
theorem dX9_delay_139 : decode cX9_delay 139 = .ok (.iload 5, 2) := by decide +kernel
theorem dX9_delay_141 : decode cX9_delay 141 = .ok (.invokevirtual 165, 3) := by decide +kernel
theorem dX9_delay_144 : decode cX9_delay 144 = .ok (.iload 4, 2) := by decide +kernel
theorem dX9_delay_146 : decode cX9_delay 146 = .ok (.aload_n 0, 1) := by decide +kernel
theorem dX9_delay_147 : decode cX9_delay 147 = .ok (.iconst 0, 1) := by decide +kernel
theorem dX9_delay_148 : decode cX9_delay 148 = .ok (.invokevirtual 154, 3) := by decide +kernel
theorem dX9_delay_151 : decode cX9_delay 151 = .ok (.ifCond .le 7, 3) := by decide +kernel
theorem dX9_delay_154 : decode cX9_delay 154 = .ok (.iconst 1, 1) := by decide +kernel
theorem dX9_delay_155 : decode cX9_delay 155 = .ok (.goto 4, 3) := by decide +kernel
theorem dX9_delay_158 : decode cX9_delay 158 = .ok (.iconst 0, 1) := by decide +kernel
theorem dX9_delay_159 : decode cX9_delay 159 = .ok (.iadd, 1) := by decide +kernel
theorem dX9_delay_160 : decode cX9_delay 160 = .ok (.istore 4, 2) := by decide +kernel
theorem dX9_delay_162 : decode cX9_delay 162 = .ok (.iinc 5 1, 3) := by decide +kernel
theorem dX9_delay_165 : decode cX9_delay 165 = .ok (.goto (-44), 3) := by decide +kernel
theorem dX9_delay_168 : decode cX9_delay 168 = .ok (.iload 4, 2) := by decide +kernel
theorem dX9_delay_170 : decode cX9_delay 170 = .ok (.ireturn, 1) := by decide +kernel
theorem dX9_cancel_0 : decode cX9_cancel 0 = .ok (.aload_n 0, 1) := by decide +kernel
theorem dX9_cancel_1 : decode cX9_cancel 1 = .ok (.iload_n 1, 1) := by decide +kernel
theorem dX9_cancel_2 : decode cX9_cancel 2 = .ok (.invokevirtual 100, 3) := by decide +kernel
theorem dX9_cancel_5 : decode cX9_cancel 5 = .ok (.ifCond .ne 5, 3) := by decide +kernel
theorem dX9_cancel_8 : decode cX9_cancel 8 = .ok (.iconst (-1), 1) := by decide +kernel
theorem dX9_cancel_9 : decode cX9_cancel 9 = .ok (.ireturn, 1) := by decide +kernel
theorem dX9_cancel_10 : decode cX9_cancel 10 = .ok (.aload_n 0, 1) := by decide +kernel
theorem dX9_cancel_11 : decode cX9_cancel 11 = .ok (.iload_n 1, 1) := by decide +kernel
theorem dX9_cancel_12 : decode cX9_cancel 12 = .ok (.iconst 4, 1) := by decide +kernel
theorem dX9_cancel_13 : decode cX9_cancel 13 = .ok (.invokevirtual 63, 3) := by decide +kernel
theorem dX9_cancel_16 : decode cX9_cancel 16 = .ok (.iconst 1, 1) := by decide +kernel
theorem dX9_cancel_17 : decode cX9_cancel 17 = .ok (.if_icmp .ne 6, 3) := by decide +kernel
theorem dX9_cancel_20 : decode cX9_cancel 20 = .ok (.bipush (-2), 2) := by decide +kernel
theorem dX9_cancel_22 : decode cX9_cancel 22 = .ok (.ireturn, 1) := by decide +kernel
theorem dX9_cancel_23 : decode cX9_cancel 23 = .ok (.aload_n 0, 1) := by decide +kernel
theorem dX9_cancel_24 : decode cX9_cancel 24 = .ok (.invokevirtual 88, 3) := by decide +kernel
theorem dX9_cancel_27 : decode cX9_cancel 27 = .ok (.aload_n 0, 1) := by decide +kernel
theorem dX9_cancel_28 : decode cX9_cancel 28 = .ok (.getfield 9, 3) := by decide +kernel
theorem dX9_cancel_31 : decode cX9_cancel 31 = .ok (.bipush 10, 2) := by decide +kernel
theorem dX9_cancel_33 : decode cX9_cancel 33 = .ok (.iconst 5, 1) := by decide +kernel
theorem dX9_cancel_34 : decode cX9_cancel 34 = .ok (.iload_n 1, 1) := by decide +kernel
theorem dX9_cancel_35 : decode cX9_cancel 35 = .ok (.imul, 1) := by decide +kernel
theorem dX9_cancel_36 : decode cX9_cancel 36 = .ok (.iadd, 1) := by decide +kernel
theorem dX9_cancel_37 : decode cX9_cancel 37 = .ok (.iconst 4, 1) := by decide +kernel
theorem dX9_cancel_38 : decode cX9_cancel 38 = .ok (.iadd, 1) := by decide +kernel
theorem dX9_cancel_39 : decode cX9_cancel 39 = .ok (.iconst 1, 1) := by decide +kernel
theorem dX9_cancel_40 : decode cX9_cancel 40 = .ok (.iastore, 1) := by decide +kernel
theorem dX9_cancel_41 : decode cX9_cancel 41 = .ok (.iconst 0, 1) := by decide +kernel
theorem dX9_cancel_42 : decode cX9_cancel 42 = .ok (.istore_n 2, 1) := by decide +kernel
theorem dX9_cancel_43 : decode cX9_cancel 43 = .ok (.iconst 0, 1) := by decide +kernel
theorem dX9_cancel_44 : decode cX9_cancel 44 = .ok (.istore_n 3, 1) := by decide +kernel
theorem dX9_cancel_45 : decode cX9_cancel 45 = .ok (.iload_n 3, 1) := by decide +kernel
theorem dX9_cancel_46 : decode cX9_cancel 46 = .ok (.aload_n 0, 1) := by decide +kernel
theorem dX9_cancel_47 : decode cX9_cancel 47 = .ok (.getfield 9, 3) := by decide +kernel
theorem dX9_cancel_50 : decode cX9_cancel 50 = .ok (.iconst 1, 1) := by decide +kernel
theorem dX9_cancel_51 : decode cX9_cancel 51 = .ok (.iaload, 1) := by decide +kernel
theorem dX9_cancel_52 : decode cX9_cancel 52 = .ok (.if_icmp .ge 41, 3) := by decide +kernel
theorem dX9_cancel_55 : decode cX9_cancel 55 = .ok (.aload_n 0, 1) := by decide +kernel
theorem dX9_cancel_56 : decode cX9_cancel 56 = .ok (.iload_n 3, 1) := by decide +kernel
theorem dX9_cancel_57 : decode cX9_cancel 57 = .ok (.iload_n 1, 1) := by decide +kernel
theorem dX9_cancel_58 : decode cX9_cancel 58 = .ok (.invokevirtual 97, 3) := by decide +kernel
theorem dX9_cancel_61 : decode cX9_cancel 61 = .ok (.istore 4, 2) := by decide +kernel
theorem dX9_cancel_63 : decode cX9_cancel 63 = .ok (.iload 4, 2) := by decide +kernel
theorem dX9_cancel_65 : decode cX9_cancel 65 = .ok (.ifCond .lt 22, 3) := by decide +kernel
theorem dX9_cancel_68 : decode cX9_cancel 68 = .ok (.aload_n 0, 1) := by decide +kernel
theorem dX9_cancel_69 : decode cX9_cancel 69 = .ok (.iload_n 3, 1) := by decide +kernel
theorem dX9_cancel_70 : decode cX9_cancel 70 = .ok (.invokevirtual 165, 3) := by decide +kernel
theorem dX9_cancel_73 : decode cX9_cancel 73 = .ok (.aload_n 0, 1) := by decide +kernel
theorem dX9_cancel_74 : decode cX9_cancel 74 = .ok (.iload 4, 2) := by decide +kernel
theorem dX9_cancel_76 : decode cX9_cancel 76 = .ok (.invokevirtual 161, 3) := by decide +kernel
theorem dX9_cancel_79 : decode cX9_cancel 79 = .ok (.aload_n 0, 1) := by decide +kernel
theorem dX9_cancel_80 : decode cX9_cancel 80 = .ok (.iload_n 3, 1) := by decide +kernel
theorem dX9_cancel_81 : decode cX9_cancel 81 = .ok (.invokevirtual 171, 3) := by decide +kernel
theorem dX9_cancel_84 : decode cX9_cancel 84 = .ok (.iinc 2 1, 3) := by decide +kernel
theorem dX9_cancel_87 : decode cX9_cancel 87 = .ok (.iinc 3 1, 3) := by decide +kernel
theorem dX9_cancel_90 : decode cX9_cancel 90 = .ok (.goto (-45), 3) := by decide +kernel
theorem dX9_cancel_93 : decode cX9_cancel 93 = .ok (.iload_n 2, 1) := by decide +kernel
theorem dX9_cancel_94 : decode cX9_cancel 94 = .ok (.ireturn, 1) := by decide +kernel
theorem dX9_isReserve_0 : decode cX9_isReserve 0 = .ok (.aload_n 0, 1) := by decide +kernel
theorem dX9_isReserve_1 : decode cX9_isReserve 1 = .ok (.iload_n 1, 1) := by decide +kernel
theorem dX9_isReserve_2 : decode cX9_isReserve 2 = .ok (.iconst 1, 1) := by decide +kernel
theorem dX9_isReserve_3 : decode cX9_isReserve 3 = .ok (.invokevirtual 94, 3) := by decide +kernel
theorem dX9_isReserve_6 : decode cX9_isReserve 6 = .ok (.aload_n 0, 1) := by decide +kernel
theorem dX9_isReserve_7 : decode cX9_isReserve 7 = .ok (.iload_n 1, 1) := by decide +kernel
theorem dX9_isReserve_8 : decode cX9_isReserve 8 = .ok (.iconst 2, 1) := by decide +kernel
theorem dX9_isReserve_9 : decode cX9_isReserve 9 = .ok (.invokevirtual 94, 3) := by decide +kernel
theorem dX9_isReserve_12 : decode cX9_isReserve 12 = .ok (.if_icmp .ge 7, 3) := by decide +kernel
theorem dX9_isReserve_15 : decode cX9_isReserve 15 = .ok (.iconst 1, 1) := by decide +kernel
theorem dX9_isReserve_16 : decode cX9_isReserve 16 = .ok (.goto 4, 3) := by decide +kernel
theorem dX9_isReserve_19 : decode cX9_isReserve 19 = .ok (.iconst 0, 1) := by decide +kernel
theorem dX9_isReserve_20 : decode cX9_isReserve 20 = .ok (.ireturn, 1) := by decide +kernel
theorem dX9_setReserve_0 : decode cX9_setReserve 0 = .ok (.aload_n 0, 1) := by decide +kernel
theorem dX9_setReserve_1 : decode cX9_setReserve 1 = .ok (.iload_n 1, 1) := by decide +kernel
theorem dX9_setReserve_2 : decode cX9_setReserve 2 = .ok (.invokevirtual 174, 3) := by decide +kernel
theorem dX9_setReserve_5 : decode cX9_setReserve 5 = .ok (.ifCond .eq 25, 3) := by decide +kernel
theorem dX9_setReserve_8 : decode cX9_setReserve 8 = .ok (.iload_n 2, 1) := by decide +kernel
theorem dX9_setReserve_9 : decode cX9_setReserve 9 = .ok (.iconst 0, 1) := by decide +kernel
theorem dX9_setReserve_10 : decode cX9_setReserve 10 = .ok (.sipush 5999, 3) := by decide +kernel
theorem dX9_setReserve_13 : decode cX9_setReserve 13 = .ok (.invokestatic 59, 3) := by decide +kernel
theorem dX9_setReserve_16 : decode cX9_setReserve 16 = .ok (.ifCond .eq 14, 3) := by decide +kernel
theorem dX9_setReserve_19 : decode cX9_setReserve 19 = .ok (.iload_n 3, 1) := by decide +kernel
theorem dX9_setReserve_20 : decode cX9_setReserve 20 = .ok (.iload_n 2, 1) := by decide +kernel
theorem dX9_setReserve_21 : decode cX9_setReserve 21 = .ok (.sipush 6000, 3) := by decide +kernel
theorem dX9_setReserve_24 : decode cX9_setReserve 24 = .ok (.invokestatic 59, 3) := by decide +kernel
theorem dX9_setReserve_27 : decode cX9_setReserve 27 = .ok (.ifCond .ne 5, 3) := by decide +kernel
theorem dX9_setReserve_30 : decode cX9_setReserve 30 = .ok (.iconst (-1), 1) := by decide +kernel
theorem dX9_setReserve_31 : decode cX9_setReserve 31 = .ok (.ireturn, 1) := by decide +kernel
theorem dX9_setReserve_32 : decode cX9_setReserve 32 = .ok (.aload_n 0, 1) := by decide +kernel
theorem dX9_setReserve_33 : decode cX9_setReserve 33 = .ok (.invokevirtual 88, 3) := by decide +kernel
theorem dX9_setReserve_36 : decode cX9_setReserve 36 = .ok (.aload_n 0, 1) := by decide +kernel
theorem dX9_setReserve_37 : decode cX9_setReserve 37 = .ok (.iload_n 1, 1) := by decide +kernel
theorem dX9_setReserve_38 : decode cX9_setReserve 38 = .ok (.invokevirtual 215, 3) := by decide +kernel
theorem dX9_setReserve_41 : decode cX9_setReserve 41 = .ok (.ifCond .eq 7, 3) := by decide +kernel
theorem dX9_setReserve_44 : decode cX9_setReserve 44 = .ok (.iconst 1, 1) := by decide +kernel
theorem dX9_setReserve_45 : decode cX9_setReserve 45 = .ok (.goto 4, 3) := by decide +kernel
theorem dX9_setReserve_48 : decode cX9_setReserve 48 = .ok (.iconst 0, 1) := by decide +kernel
theorem dX9_setReserve_49 : decode cX9_setReserve 49 = .ok (.istore 4, 2) := by decide +kernel
theorem dX9_setReserve_51 : decode cX9_setReserve 51 = .ok (.aload_n 0, 1) := by decide +kernel
theorem dX9_setReserve_52 : decode cX9_setReserve 52 = .ok (.getfield 9, 3) := by decide +kernel
theorem dX9_setReserve_55 : decode cX9_setReserve 55 = .ok (.iload_n 1, 1) := by decide +kernel
theorem dX9_setReserve_56 : decode cX9_setReserve 56 = .ok (.iconst 1, 1) := by decide +kernel
theorem dX9_setReserve_57 : decode cX9_setReserve 57 = .ok (.invokestatic 91, 3) := by decide +kernel
theorem dX9_setReserve_60 : decode cX9_setReserve 60 = .ok (.iload_n 2, 1) := by decide +kernel
theorem dX9_setReserve_61 : decode cX9_setReserve 61 = .ok (.iastore, 1) := by decide +kernel
theorem dX9_setReserve_62 : decode cX9_setReserve 62 = .ok (.aload_n 0, 1) := by decide +kernel
theorem dX9_setReserve_63 : decode cX9_setReserve 63 = .ok (.getfield 9, 3) := by decide +kernel
theorem dX9_setReserve_66 : decode cX9_setReserve 66 = .ok (.iload_n 1, 1) := by decide +kernel
theorem dX9_setReserve_67 : decode cX9_setReserve 67 = .ok (.iconst 2, 1) := by decide +kernel
theorem dX9_setReserve_68 : decode cX9_setReserve 68 = .ok (.invokestatic 91, 3) := by decide +kernel
theorem dX9_setReserve_71 : decode cX9_setReserve 71 = .ok (.iload_n 3, 1) := by decide +kernel
theorem dX9_setReserve_72 : decode cX9_setReserve 72 = .ok (.iastore, 1) := by decide +kernel
theorem dX9_setReserve_73 : decode cX9_setReserve 73 = .ok (.iload 4, 2) := by decide +kernel
theorem dX9_setReserve_75 : decode cX9_setReserve 75 = .ok (.ireturn, 1) := by decide +kernel
theorem dX9_reserve_0 : decode cX9_reserve 0 = .ok (.aload_n 0, 1) := by decide +kernel
theorem dX9_reserve_1 : decode cX9_reserve 1 = .ok (.iload_n 1, 1) := by decide +kernel
theorem dX9_reserve_2 : decode cX9_reserve 2 = .ok (.invokevirtual 174, 3) := by decide +kernel
theorem dX9_reserve_5 : decode cX9_reserve 5 = .ok (.ifCond .eq 12, 3) := by decide +kernel
theorem dX9_reserve_8 : decode cX9_reserve 8 = .ok (.iload_n 2, 1) := by decide +kernel
theorem dX9_reserve_9 : decode cX9_reserve 9 = .ok (.iconst 0, 1) := by decide +kernel
theorem dX9_reserve_10 : decode cX9_reserve 10 = .ok (.iconst 1, 1) := by decide +kernel
theorem dX9_reserve_11 : decode cX9_reserve 11 = .ok (.invokestatic 59, 3) := by decide +kernel
theorem dX9_reserve_14 : decode cX9_reserve 14 = .ok (.ifCond .ne 5, 3) := by decide +kernel
theorem dX9_reserve_17 : decode cX9_reserve 17 = .ok (.iconst (-1), 1) := by decide +kernel
theorem dX9_reserve_18 : decode cX9_reserve 18 = .ok (.ireturn, 1) := by decide +kernel
theorem dX9_reserve_19 : decode cX9_reserve 19 = .ok (.aload_n 0, 1) := by decide +kernel
theorem dX9_reserve_20 : decode cX9_reserve 20 = .ok (.iload_n 1, 1) := by decide +kernel
theorem dX9_reserve_21 : decode cX9_reserve 21 = .ok (.invokevirtual 215, 3) := by decide +kernel
theorem dX9_reserve_24 : decode cX9_reserve 24 = .ok (.ifCond .eq 14, 3) := by decide +kernel
theorem dX9_reserve_27 : decode cX9_reserve 27 = .ok (.aload_n 0, 1) := by decide +kernel
theorem dX9_reserve_28 : decode cX9_reserve 28 = .ok (.iload_n 1, 1) := by decide +kernel
theorem dX9_reserve_29 : decode cX9_reserve 29 = .ok (.iconst 1, 1) := by decide +kernel
theorem dX9_reserve_30 : decode cX9_reserve 30 = .ok (.iload_n 2, 1) := by decide +kernel
theorem dX9_reserve_31 : decode cX9_reserve 31 = .ok (.iadd, 1) := by decide +kernel
theorem dX9_reserve_32 : decode cX9_reserve 32 = .ok (.invokevirtual 94, 3) := by decide +kernel
theorem dX9_reserve_35 : decode cX9_reserve 35 = .ok (.goto 5, 3) := by decide +kernel
theorem dX9_reserve_38 : decode cX9_reserve 38 = .ok (.bipush (-2), 2) := by decide +kernel
theorem dX9_reserve_40 : decode cX9_reserve 40 = .ok (.ireturn, 1) := by decide +kernel
theorem dX9_calledFor_0 : decode cX9_calledFor 0 = .ok (.bipush (-2), 2) := by decide +kernel
theorem dX9_calledFor_2 : decode cX9_calledFor 2 = .ok (.istore_n 2, 1) := by decide +kernel
theorem dX9_calledFor_3 : decode cX9_calledFor 3 = .ok (.iconst 0, 1) := by decide +kernel
theorem dX9_calledFor_4 : decode cX9_calledFor 4 = .ok (.istore_n 3, 1) := by decide +kernel
theorem dX9_calledFor_5 : decode cX9_calledFor 5 = .ok (.iconst 0, 1) := by decide +kernel
theorem dX9_calledFor_6 : decode cX9_calledFor 6 = .ok (.istore 4, 2) := by decide +kernel
theorem dX9_calledFor_8 : decode cX9_calledFor 8 = .ok (.iload 4, 2) := by decide +kernel
theorem dX9_calledFor_10 : decode cX9_calledFor 10 = .ok (.aload_n 0, 1) := by decide +kernel
theorem dX9_calledFor_11 : decode cX9_calledFor 11 = .ok (.getfield 9, 3) := by decide +kernel
theorem dX9_calledFor_14 : decode cX9_calledFor 14 = .ok (.iconst 1, 1) := by decide +kernel
theorem dX9_calledFor_15 : decode cX9_calledFor 15 = .ok (.iaload, 1) := by decide +kernel
theorem dX9_calledFor_16 : decode cX9_calledFor 16 = .ok (.if_icmp .ge 125, 3) := by decide +kernel
theorem dX9_calledFor_19 : decode cX9_calledFor 19 = .ok (.aload_n 0, 1) := by decide +kernel
theorem dX9_calledFor_20 : decode cX9_calledFor 20 = .ok (.iload 4, 2) := by decide +kernel
theorem dX9_calledFor_22 : decode cX9_calledFor 22 = .ok (.invokevirtual 215, 3) := by decide +kernel
theorem dX9_calledFor_25 : decode cX9_calledFor 25 = .ok (.ifCond .eq 42, 3) := by decide +kernel
theorem dX9_calledFor_28 : decode cX9_calledFor 28 = .ok (.aload_n 0, 1) := by decide +kernel
theorem dX9_calledFor_29 : decode cX9_calledFor 29 = .ok (.iload_n 1, 1) := by decide +kernel
theorem dX9_calledFor_30 : decode cX9_calledFor 30 = .ok (.iconst 2, 1) := by decide +kernel
theorem dX9_calledFor_31 : decode cX9_calledFor 31 = .ok (.invokevirtual 63, 3) := by decide +kernel
theorem dX9_calledFor_34 : decode cX9_calledFor 34 = .ok (.aload_n 0, 1) := by decide +kernel
theorem dX9_calledFor_35 : decode cX9_calledFor 35 = .ok (.iload 4, 2) := by decide +kernel
theorem dX9_calledFor_37 : decode cX9_calledFor 37 = .ok (.iconst 1, 1) := by decide +kernel
theorem dX9_calledFor_38 : decode cX9_calledFor 38 = .ok (.invokevirtual 94, 3) := by decide +kernel
theorem dX9_calledFor_41 : decode cX9_calledFor 41 = .ok (.bipush 120, 2) := by decide +kernel
theorem dX9_calledFor_43 : decode cX9_calledFor 43 = .ok (.iadd, 1) := by decide +kernel
theorem dX9_calledFor_44 : decode cX9_calledFor 44 = .ok (.if_icmp .lt 23, 3) := by decide +kernel
theorem dX9_calledFor_47 : decode cX9_calledFor 47 = .ok (.aload_n 0, 1) := by decide +kernel
theorem dX9_calledFor_48 : decode cX9_calledFor 48 = .ok (.iload_n 1, 1) := by decide +kernel
theorem dX9_calledFor_49 : decode cX9_calledFor 49 = .ok (.iconst 3, 1) := by decide +kernel
theorem dX9_calledFor_50 : decode cX9_calledFor 50 = .ok (.invokevirtual 63, 3) := by decide +kernel
theorem dX9_calledFor_53 : decode cX9_calledFor 53 = .ok (.aload_n 0, 1) := by decide +kernel
theorem dX9_calledFor_54 : decode cX9_calledFor 54 = .ok (.iload 4, 2) := by decide +kernel
theorem dX9_calledFor_56 : decode cX9_calledFor 56 = .ok (.iconst 2, 1) := by decide +kernel
theorem dX9_calledFor_57 : decode cX9_calledFor 57 = .ok (.invokevirtual 94, 3) := by decide +kernel
theorem dX9_calledFor_60 : decode cX9_calledFor 60 = .ok (.if_icmp .gt 7, 3) := by decide +kernel
theorem dX9_calledFor_63 : decode cX9_calledFor 63 = .ok (.iconst 1, 1) := by decide +kernel
theorem dX9_calledFor_64 : decode cX9_calledFor 64 = .ok (.goto 4, 3) := by decide +kernel
theorem dX9_calledFor_67 : decode cX9_calledFor 67 = .ok (.iconst 0, 1) := by decide +kernel
theorem dX9_calledFor_68 : decode cX9_calledFor 68 = .ok (.istore 5, 2) := by decide +kernel
theorem dX9_calledFor_70 : decode cX9_calledFor 70 = .ok (.iload 5, 2) := by decide +kernel
theorem dX9_calledFor_72 : decode cX9_calledFor 72 = .ok (.ifCond .eq 63, 3) := by decide +kernel
theorem dX9_calledFor_75 : decode cX9_calledFor 75 = .ok (.aload_n 0, 1) := by decide +kernel
theorem dX9_calledFor_76 : decode cX9_calledFor 76 = .ok (.iload 4, 2) := by decide +kernel
theorem dX9_calledFor_78 : decode cX9_calledFor 78 = .ok (.iload_n 1, 1) := by decide +kernel
theorem dX9_calledFor_79 : decode cX9_calledFor 79 = .ok (.iconst 1, 1) := by decide +kernel
theorem dX9_calledFor_80 : decode cX9_calledFor 80 = .ok (.invokevirtual 177, 3) := by decide +kernel
theorem dX9_calledFor_83 : decode cX9_calledFor 83 = .ok (.ifCond .ne 52, 3) := by decide +kernel
theorem dX9_calledFor_86 : decode cX9_calledFor 86 = .ok (.aload_n 0, 1) := by decide +kernel
theorem dX9_calledFor_87 : decode cX9_calledFor 87 = .ok (.iload 4, 2) := by decide +kernel
theorem dX9_calledFor_89 : decode cX9_calledFor 89 = .ok (.invokevirtual 193, 3) := by decide +kernel
theorem dX9_calledFor_92 : decode cX9_calledFor 92 = .ok (.istore 6, 2) := by decide +kernel
theorem dX9_calledFor_94 : decode cX9_calledFor 94 = .ok (.iload_n 2, 1) := by decide +kernel
theorem dX9_calledFor_95 : decode cX9_calledFor 95 = .ok (.ifCond .lt 9, 3) := by decide +kernel
theorem dX9_calledFor_98 : decode cX9_calledFor 98 = .ok (.iload 6, 2) := by decide +kernel
theorem dX9_calledFor_100 : decode cX9_calledFor 100 = .ok (.iload_n 3, 1) := by decide +kernel
theorem dX9_calledFor_101 : decode cX9_calledFor 101 = .ok (.if_icmp .ge 7, 3) := by decide +kernel
theorem dX9_calledFor_104 : decode cX9_calledFor 104 = .ok (.iconst 1, 1) := by decide +kernel
theorem dX9_calledFor_105 : decode cX9_calledFor 105 = .ok (.goto 4, 3) := by decide +kernel
theorem dX9_calledFor_108 : decode cX9_calledFor 108 = .ok (.iconst 0, 1) := by decide +kernel
theorem dX9_calledFor_109 : decode cX9_calledFor 109 = .ok (.istore 7, 2) := by decide +kernel
theorem dX9_calledFor_111 : decode cX9_calledFor 111 = .ok (.iload 7, 2) := by decide +kernel
theorem dX9_calledFor_113 : decode cX9_calledFor 113 = .ok (.ifCond .eq 8, 3) := by decide +kernel
theorem dX9_calledFor_116 : decode cX9_calledFor 116 = .ok (.iload 4, 2) := by decide +kernel
theorem dX9_calledFor_118 : decode cX9_calledFor 118 = .ok (.goto 4, 3) := by decide +kernel
theorem dX9_calledFor_121 : decode cX9_calledFor 121 = .ok (.iload_n 2, 1) := by decide +kernel
theorem dX9_calledFor_122 : decode cX9_calledFor 122 = .ok (.istore_n 2, 1) := by decide +kernel
theorem dX9_calledFor_123 : decode cX9_calledFor 123 = .ok (.iload 7, 2) := by decide +kernel
theorem dX9_calledFor_125 : decode cX9_calledFor 125 = .ok (.ifCond .eq 8, 3) := by decide +kernel
theorem dX9_calledFor_128 : decode cX9_calledFor 128 = .ok (.iload 6, 2) := by decide +kernel
theorem dX9_calledFor_130 : decode cX9_calledFor 130 = .ok (.goto 4, 3) := by decide +kernel
theorem dX9_calledFor_133 : decode cX9_calledFor 133 = .ok (.iload_n 3, 1) := by decide +kernel
theorem dX9_calledFor_134 : decode cX9_calledFor 134 = .ok (.istore_n 3, 1) := by decide +kernel
theorem dX9_calledFor_135 : decode cX9_calledFor 135 = .ok (.iinc 4 1, 3) := by decide +kernel
theorem dX9_calledFor_138 : decode cX9_calledFor 138 = .ok (.goto (-130), 3) := by decide +kernel
theorem dX9_calledFor_141 : decode cX9_calledFor 141 = .ok (.iload_n 2, 1) := by decide +kernel
theorem dX9_calledFor_142 : decode cX9_calledFor 142 = .ok (.ireturn, 1) := by decide +kernel
theorem dX9_called_0 : decode cX9_called 0 = .ok (.aload_n 0, 1) := by decide +kernel
theorem dX9_called_1 : decode cX9_called 1 = .ok (.iload_n 1, 1) := by decide +kernel
theorem dX9_called_2 : decode cX9_called 2 = .ok (.invokevirtual 100, 3) := by decide +kernel
theorem dX9_called_5 : decode cX9_called 5 = .ok (.ifCond .ne 7, 3) := by decide +kernel
theorem dX9_called_8 : decode cX9_called 8 = .ok (.iconst (-1), 1) := by decide +kernel
theorem dX9_called_9 : decode cX9_called 9 = .ok (.goto 21, 3) := by decide +kernel
theorem dX9_called_12 : decode cX9_called 12 = .ok (.aload_n 0, 1) := by decide +kernel
theorem dX9_called_13 : decode cX9_called 13 = .ok (.iload_n 1, 1) := by decide +kernel
theorem dX9_called_14 : decode cX9_called 14 = .ok (.invokevirtual 206, 3) := by decide +kernel
theorem dX9_called_17 : decode cX9_called 17 = .ok (.ifCond .eq 11, 3) := by decide +kernel
theorem dX9_called_20 : decode cX9_called 20 = .ok (.aload_n 0, 1) := by decide +kernel
theorem dX9_called_21 : decode cX9_called 21 = .ok (.iload_n 1, 1) := by decide +kernel
theorem dX9_called_22 : decode cX9_called 22 = .ok (.invokevirtual 218, 3) := by decide +kernel
theorem dX9_called_25 : decode cX9_called 25 = .ok (.goto 5, 3) := by decide +kernel
theorem dX9_called_28 : decode cX9_called 28 = .ok (.bipush (-2), 2) := by decide +kernel
theorem dX9_called_30 : decode cX9_called 30 = .ok (.ireturn, 1) := by decide +kernel
theorem dX9_consider_0 : decode cX9_consider 0 = .ok (.aload_n 0, 1) := by decide +kernel
theorem dX9_consider_1 : decode cX9_consider 1 = .ok (.iload_n 1, 1) := by decide +kernel
theorem dX9_consider_2 : decode cX9_consider 2 = .ok (.invokevirtual 193, 3) := by decide +kernel
theorem dX9_consider_5 : decode cX9_consider 5 = .ok (.istore 4, 2) := by decide +kernel
theorem dX9_consider_7 : decode cX9_consider 7 = .ok (.aload_n 0, 1) := by decide +kernel
theorem dX9_consider_8 : decode cX9_consider 8 = .ok (.getfield 221, 3) := by decide +kernel
theorem dX9_consider_11 : decode cX9_consider 11 = .ok (.ifCond .lt 28, 3) := by decide +kernel
theorem dX9_consider_14 : decode cX9_consider 14 = .ok (.iload_n 3, 1) := by decide +kernel
theorem dX9_consider_15 : decode cX9_consider 15 = .ok (.aload_n 0, 1) := by decide +kernel
theorem dX9_consider_16 : decode cX9_consider 16 = .ok (.getfield 224, 3) := by decide +kernel
theorem dX9_consider_19 : decode cX9_consider 19 = .ok (.if_icmp .lt 20, 3) := by decide +kernel
theorem dX9_consider_22 : decode cX9_consider 22 = .ok (.iload_n 3, 1) := by decide +kernel
theorem dX9_consider_23 : decode cX9_consider 23 = .ok (.aload_n 0, 1) := by decide +kernel
theorem dX9_consider_24 : decode cX9_consider 24 = .ok (.getfield 224, 3) := by decide +kernel
theorem dX9_consider_27 : decode cX9_consider 27 = .ok (.if_icmp .ne 16, 3) := by decide +kernel
theorem dX9_consider_30 : decode cX9_consider 30 = .ok (.iload 4, 2) := by decide +kernel
theorem dX9_consider_32 : decode cX9_consider 32 = .ok (.aload_n 0, 1) := by decide +kernel
theorem dX9_consider_33 : decode cX9_consider 33 = .ok (.getfield 227, 3) := by decide +kernel
theorem dX9_consider_36 : decode cX9_consider 36 = .ok (.if_icmp .ge 7, 3) := by decide +kernel
theorem dX9_consider_39 : decode cX9_consider 39 = .ok (.iconst 1, 1) := by decide +kernel
theorem dX9_consider_40 : decode cX9_consider 40 = .ok (.goto 4, 3) := by decide +kernel
theorem dX9_consider_43 : decode cX9_consider 43 = .ok (.iconst 0, 1) := by decide +kernel
theorem dX9_consider_44 : decode cX9_consider 44 = .ok (.istore 5, 2) := by decide +kernel
theorem dX9_consider_46 : decode cX9_consider 46 = .ok (.iload 5, 2) := by decide +kernel
theorem dX9_consider_48 : decode cX9_consider 48 = .ok (.ifCond .eq 24, 3) := by decide +kernel
theorem dX9_consider_51 : decode cX9_consider 51 = .ok (.aload_n 0, 1) := by decide +kernel
theorem dX9_consider_52 : decode cX9_consider 52 = .ok (.iload_n 1, 1) := by decide +kernel
theorem dX9_consider_53 : decode cX9_consider 53 = .ok (.putfield 221, 3) := by decide +kernel
theorem dX9_consider_56 : decode cX9_consider 56 = .ok (.aload_n 0, 1) := by decide +kernel
theorem dX9_consider_57 : decode cX9_consider 57 = .ok (.iload_n 2, 1) := by decide +kernel
theorem dX9_consider_58 : decode cX9_consider 58 = .ok (.putfield 230, 3) := by decide +kernel
theorem dX9_consider_61 : decode cX9_consider 61 = .ok (.aload_n 0, 1) := by decide +kernel
theorem dX9_consider_62 : decode cX9_consider 62 = .ok (.iload_n 3, 1) := by decide +kernel
theorem dX9_consider_63 : decode cX9_consider 63 = .ok (.putfield 224, 3) := by decide +kernel
theorem dX9_consider_66 : decode cX9_consider 66 = .ok (.aload_n 0, 1) := by decide +kernel
theorem dX9_consider_67 : decode cX9_consider 67 = .ok (.iload 4, 2) := by decide +kernel
theorem dX9_consider_69 : decode cX9_consider 69 = .ok (.putfield 227, 3) := by decide +kernel
theorem dX9_consider_72 : decode cX9_consider 72 = .ok (.return_, 1) := by decide +kernel
theorem dX9_isWay_0 : decode cX9_isWay 0 = .ok (.aload_n 0, 1) := by decide +kernel
theorem dX9_isWay_1 : decode cX9_isWay 1 = .ok (.iload_n 2, 1) := by decide +kernel
theorem dX9_isWay_2 : decode cX9_isWay 2 = .ok (.iconst 2, 1) := by decide +kernel
theorem dX9_isWay_3 : decode cX9_isWay 3 = .ok (.invokevirtual 63, 3) := by decide +kernel
theorem dX9_isWay_6 : decode cX9_isWay 6 = .ok (.aload_n 0, 1) := by decide +kernel
theorem dX9_isWay_7 : decode cX9_isWay 7 = .ok (.iload_n 3, 1) := by decide +kernel
theorem dX9_isWay_8 : decode cX9_isWay 8 = .ok (.iconst 2, 1) := by decide +kernel
theorem dX9_isWay_9 : decode cX9_isWay 9 = .ok (.invokevirtual 63, 3) := by decide +kernel
theorem dX9_isWay_12 : decode cX9_isWay 12 = .ok (.if_icmp .ge 13, 3) := by decide +kernel
theorem dX9_isWay_15 : decode cX9_isWay 15 = .ok (.aload_n 0, 1) := by decide +kernel
theorem dX9_isWay_16 : decode cX9_isWay 16 = .ok (.iload_n 1, 1) := by decide +kernel
theorem dX9_isWay_17 : decode cX9_isWay 17 = .ok (.iload_n 2, 1) := by decide +kernel
theorem dX9_isWay_18 : decode cX9_isWay 18 = .ok (.iconst 0, 1) := by decide +kernel
theorem dX9_isWay_19 : decode cX9_isWay 19 = .ok (.invokevirtual 177, 3) := by decide +kernel
theorem dX9_isWay_22 : decode cX9_isWay 22 = .ok (.ifCond .le 5, 3) := by decide +kernel
theorem dX9_isWay_25 : decode cX9_isWay 25 = .ok (.iconst 0, 1) := by decide +kernel
theorem dX9_isWay_26 : decode cX9_isWay 26 = .ok (.ireturn, 1) := by decide +kernel
theorem dX9_isWay_27 : decode cX9_isWay 27 = .ok (.aload_n 0, 1) := by decide +kernel
theorem dX9_isWay_28 : decode cX9_isWay 28 = .ok (.iload_n 2, 1) := by decide +kernel
theorem dX9_isWay_29 : decode cX9_isWay 29 = .ok (.iconst 0, 1) := by decide +kernel
theorem dX9_isWay_30 : decode cX9_isWay 30 = .ok (.invokevirtual 157, 3) := by decide +kernel
theorem dX9_isWay_33 : decode cX9_isWay 33 = .ok (.istore 4, 2) := by decide +kernel
theorem dX9_isWay_35 : decode cX9_isWay 35 = .ok (.aload_n 0, 1) := by decide +kernel
theorem dX9_isWay_36 : decode cX9_isWay 36 = .ok (.iload_n 3, 1) := by decide +kernel
theorem dX9_isWay_37 : decode cX9_isWay 37 = .ok (.iconst 1, 1) := by decide +kernel
theorem dX9_isWay_38 : decode cX9_isWay 38 = .ok (.invokevirtual 168, 3) := by decide +kernel
theorem dX9_isWay_41 : decode cX9_isWay 41 = .ok (.ifCond .ne 7, 3) := by decide +kernel
theorem dX9_isWay_44 : decode cX9_isWay 44 = .ok (.iconst 1, 1) := by decide +kernel
theorem dX9_isWay_45 : decode cX9_isWay 45 = .ok (.goto 4, 3) := by decide +kernel
theorem dX9_isWay_48 : decode cX9_isWay 48 = .ok (.iconst 0, 1) := by decide +kernel
theorem dX9_isWay_49 : decode cX9_isWay 49 = .ok (.ireturn, 1) := by decide +kernel
theorem dX9_findOffer_0 : decode cX9_findOffer 0 = .ok (.aload_n 0, 1) := by decide +kernel
theorem dX9_findOffer_1 : decode cX9_findOffer 1 = .ok (.bipush (-2), 2) := by decide +kernel
theorem dX9_findOffer_3 : decode cX9_findOffer 3 = .ok (.putfield 221, 3) := by decide +kernel
theorem dX9_findOffer_6 : decode cX9_findOffer 6 = .ok (.aload_n 0, 1) := by decide +kernel
theorem dX9_findOffer_7 : decode cX9_findOffer 7 = .ok (.bipush (-2), 2) := by decide +kernel
theorem dX9_findOffer_9 : decode cX9_findOffer 9 = .ok (.putfield 230, 3) := by decide +kernel
theorem dX9_findOffer_12 : decode cX9_findOffer 12 = .ok (.iconst 0, 1) := by decide +kernel
theorem dX9_findOffer_13 : decode cX9_findOffer 13 = .ok (.istore_n 2, 1) := by decide +kernel
theorem dX9_findOffer_14 : decode cX9_findOffer 14 = .ok (.iload_n 2, 1) := by decide +kernel
theorem dX9_findOffer_15 : decode cX9_findOffer 15 = .ok (.aload_n 0, 1) := by decide +kernel
theorem dX9_findOffer_16 : decode cX9_findOffer 16 = .ok (.getfield 9, 3) := by decide +kernel
theorem dX9_findOffer_19 : decode cX9_findOffer 19 = .ok (.iconst 1, 1) := by decide +kernel
theorem dX9_findOffer_20 : decode cX9_findOffer 20 = .ok (.iaload, 1) := by decide +kernel
theorem dX9_findOffer_21 : decode cX9_findOffer 21 = .ok (.if_icmp .ge 82, 3) := by decide +kernel
theorem dX9_findOffer_24 : decode cX9_findOffer 24 = .ok (.aload_n 0, 1) := by decide +kernel
theorem dX9_findOffer_25 : decode cX9_findOffer 25 = .ok (.iload_n 2, 1) := by decide +kernel
theorem dX9_findOffer_26 : decode cX9_findOffer 26 = .ok (.invokevirtual 215, 3) := by decide +kernel
theorem dX9_findOffer_29 : decode cX9_findOffer 29 = .ok (.ifCond .ne 68, 3) := by decide +kernel
theorem dX9_findOffer_32 : decode cX9_findOffer 32 = .ok (.aload_n 0, 1) := by decide +kernel
theorem dX9_findOffer_33 : decode cX9_findOffer 33 = .ok (.iload_n 2, 1) := by decide +kernel
theorem dX9_findOffer_34 : decode cX9_findOffer 34 = .ok (.iload_n 1, 1) := by decide +kernel
theorem dX9_findOffer_35 : decode cX9_findOffer 35 = .ok (.iconst 1, 1) := by decide +kernel
theorem dX9_findOffer_36 : decode cX9_findOffer 36 = .ok (.invokevirtual 177, 3) := by decide +kernel
theorem dX9_findOffer_39 : decode cX9_findOffer 39 = .ok (.ifCond .ne 11, 3) := by decide +kernel
theorem dX9_findOffer_42 : decode cX9_findOffer 42 = .ok (.aload_n 0, 1) := by decide +kernel
theorem dX9_findOffer_43 : decode cX9_findOffer 43 = .ok (.iload_n 2, 1) := by decide +kernel
theorem dX9_findOffer_44 : decode cX9_findOffer 44 = .ok (.bipush (-2), 2) := by decide +kernel
theorem dX9_findOffer_46 : decode cX9_findOffer 46 = .ok (.iconst 0, 1) := by decide +kernel
theorem dX9_findOffer_47 : decode cX9_findOffer 47 = .ok (.invokevirtual 233, 3) := by decide +kernel
theorem dX9_findOffer_50 : decode cX9_findOffer 50 = .ok (.iconst 0, 1) := by decide +kernel
theorem dX9_findOffer_51 : decode cX9_findOffer 51 = .ok (.istore_n 3, 1) := by decide +kernel
theorem dX9_findOffer_52 : decode cX9_findOffer 52 = .ok (.iload_n 3, 1) := by decide +kernel
theorem dX9_findOffer_53 : decode cX9_findOffer 53 = .ok (.aload_n 0, 1) := by decide +kernel
theorem dX9_findOffer_54 : decode cX9_findOffer 54 = .ok (.getfield 9, 3) := by decide +kernel
theorem dX9_findOffer_57 : decode cX9_findOffer 57 = .ok (.iconst 0, 1) := by decide +kernel
theorem dX9_findOffer_58 : decode cX9_findOffer 58 = .ok (.iaload, 1) := by decide +kernel
theorem dX9_findOffer_59 : decode cX9_findOffer 59 = .ok (.if_icmp .ge 38, 3) := by decide +kernel
theorem dX9_findOffer_62 : decode cX9_findOffer 62 = .ok (.aload_n 0, 1) := by decide +kernel
theorem dX9_findOffer_63 : decode cX9_findOffer 63 = .ok (.iload_n 2, 1) := by decide +kernel
theorem dX9_findOffer_64 : decode cX9_findOffer 64 = .ok (.iload_n 3, 1) := by decide +kernel
theorem dX9_findOffer_65 : decode cX9_findOffer 65 = .ok (.iload_n 1, 1) := by decide +kernel
theorem dX9_findOffer_66 : decode cX9_findOffer 66 = .ok (.invokevirtual 237, 3) := by decide +kernel
theorem dX9_findOffer_69 : decode cX9_findOffer 69 = .ok (.ifCond .eq 22, 3) := by decide +kernel
theorem dX9_findOffer_72 : decode cX9_findOffer 72 = .ok (.aload_n 0, 1) := by decide +kernel
theorem dX9_findOffer_73 : decode cX9_findOffer 73 = .ok (.iload_n 2, 1) := by decide +kernel
theorem dX9_findOffer_74 : decode cX9_findOffer 74 = .ok (.iload_n 3, 1) := by decide +kernel
theorem dX9_findOffer_75 : decode cX9_findOffer 75 = .ok (.aload_n 0, 1) := by decide +kernel
theorem dX9_findOffer_76 : decode cX9_findOffer 76 = .ok (.iload_n 3, 1) := by decide +kernel
theorem dX9_findOffer_77 : decode cX9_findOffer 77 = .ok (.invokevirtual 135, 3) := by decide +kernel
theorem dX9_findOffer_80 : decode cX9_findOffer 80 = .ok (.aload_n 0, 1) := by decide +kernel
theorem dX9_findOffer_81 : decode cX9_findOffer 81 = .ok (.getfield 9, 3) := by decide +kernel
theorem dX9_findOffer_84 : decode cX9_findOffer 84 = .ok (.bipush 8, 2) := by decide +kernel
theorem dX9_findOffer_86 : decode cX9_findOffer 86 = .ok (.iaload, 1) := by decide +kernel
theorem dX9_findOffer_87 : decode cX9_findOffer 87 = .ok (.imul, 1) := by decide +kernel
theorem dX9_findOffer_88 : decode cX9_findOffer 88 = .ok (.invokevirtual 233, 3) := by decide +kernel
theorem dX9_findOffer_91 : decode cX9_findOffer 91 = .ok (.iinc 3 1, 3) := by decide +kernel
theorem dX9_findOffer_94 : decode cX9_findOffer 94 = .ok (.goto (-42), 3) := by decide +kernel
theorem dX9_findOffer_97 : decode cX9_findOffer 97 = .ok (.iinc 2 1, 3) := by decide +kernel
theorem dX9_findOffer_100 : decode cX9_findOffer 100 = .ok (.goto (-86), 3) := by decide +kernel
theorem dX9_findOffer_103 : decode cX9_findOffer 103 = .ok (.return_, 1) := by decide +kernel
theorem dX9_pair_0 : decode cX9_pair 0 = .ok (.aload_n 0, 1) := by decide +kernel
theorem dX9_pair_1 : decode cX9_pair 1 = .ok (.invokevirtual 88, 3) := by decide +kernel
theorem dX9_pair_4 : decode cX9_pair 4 = .ok (.aload_n 0, 1) := by decide +kernel
theorem dX9_pair_5 : decode cX9_pair 5 = .ok (.invokevirtual 209, 3) := by decide +kernel
theorem dX9_pair_8 : decode cX9_pair 8 = .ok (.aload_n 0, 1) := by decide +kernel
theorem dX9_pair_9 : decode cX9_pair 9 = .ok (.getfield 203, 3) := by decide +kernel
theorem dX9_pair_12 : decode cX9_pair 12 = .ok (.istore_n 1, 1) := by decide +kernel
theorem dX9_pair_13 : decode cX9_pair 13 = .ok (.aload_n 0, 1) := by decide +kernel
theorem dX9_pair_14 : decode cX9_pair 14 = .ok (.getfield 25, 3) := by decide +kernel
theorem dX9_pair_17 : decode cX9_pair 17 = .ok (.iconst 0, 1) := by decide +kernel
theorem dX9_pair_18 : decode cX9_pair 18 = .ok (.aload_n 0, 1) := by decide +kernel
theorem dX9_pair_19 : decode cX9_pair 19 = .ok (.getfield 28, 3) := by decide +kernel
theorem dX9_pair_22 : decode cX9_pair 22 = .ok (.iconst 0, 1) := by decide +kernel
theorem dX9_pair_23 : decode cX9_pair 23 = .ok (.bipush 25, 2) := by decide +kernel
theorem dX9_pair_25 : decode cX9_pair 25 = .ok (.invokestatic 53, 3) := by decide +kernel
theorem dX9_pair_28 : decode cX9_pair 28 = .ok (.iconst 0, 1) := by decide +kernel
theorem dX9_pair_29 : decode cX9_pair 29 = .ok (.istore_n 2, 1) := by decide +kernel
theorem dX9_pair_30 : decode cX9_pair 30 = .ok (.iconst 0, 1) := by decide +kernel
theorem dX9_pair_31 : decode cX9_pair 31 = .ok (.istore_n 3, 1) := by decide +kernel
theorem dX9_pair_32 : decode cX9_pair 32 = .ok (.iload_n 3, 1) := by decide +kernel
theorem dX9_pair_33 : decode cX9_pair 33 = .ok (.iload_n 1, 1) := by decide +kernel
theorem dX9_pair_34 : decode cX9_pair 34 = .ok (.if_icmp .ge 68, 3) := by decide +kernel
theorem dX9_pair_37 : decode cX9_pair 37 = .ok (.aload_n 0, 1) := by decide +kernel
theorem dX9_pair_38 : decode cX9_pair 38 = .ok (.aload_n 0, 1) := by decide +kernel
theorem dX9_pair_39 : decode cX9_pair 39 = .ok (.getfield 28, 3) := by decide +kernel
theorem dX9_pair_42 : decode cX9_pair 42 = .ok (.iload_n 3, 1) := by decide +kernel
theorem dX9_pair_43 : decode cX9_pair 43 = .ok (.iaload, 1) := by decide +kernel
theorem dX9_pair_44 : decode cX9_pair 44 = .ok (.invokevirtual 240, 3) := by decide +kernel
theorem dX9_pair_47 : decode cX9_pair 47 = .ok (.aload_n 0, 1) := by decide +kernel
theorem dX9_pair_48 : decode cX9_pair 48 = .ok (.getfield 221, 3) := by decide +kernel
theorem dX9_pair_51 : decode cX9_pair 51 = .ok (.ifCond .lt 45, 3) := by decide +kernel
theorem dX9_pair_54 : decode cX9_pair 54 = .ok (.aload_n 0, 1) := by decide +kernel
theorem dX9_pair_55 : decode cX9_pair 55 = .ok (.getfield 230, 3) := by decide +kernel
theorem dX9_pair_58 : decode cX9_pair 58 = .ok (.ifCond .lt 18, 3) := by decide +kernel
theorem dX9_pair_61 : decode cX9_pair 61 = .ok (.aload_n 0, 1) := by decide +kernel
theorem dX9_pair_62 : decode cX9_pair 62 = .ok (.aload_n 0, 1) := by decide +kernel
theorem dX9_pair_63 : decode cX9_pair 63 = .ok (.getfield 221, 3) := by decide +kernel
theorem dX9_pair_66 : decode cX9_pair 66 = .ok (.aload_n 0, 1) := by decide +kernel
theorem dX9_pair_67 : decode cX9_pair 67 = .ok (.getfield 230, 3) := by decide +kernel
theorem dX9_pair_70 : decode cX9_pair 70 = .ok (.iconst 0, 1) := by decide +kernel
theorem dX9_pair_71 : decode cX9_pair 71 = .ok (.invokevirtual 180, 3) := by decide +kernel
theorem dX9_pair_74 : decode cX9_pair 74 = .ok (.istore 4, 2) := by decide +kernel
theorem dX9_pair_76 : decode cX9_pair 76 = .ok (.aload_n 0, 1) := by decide +kernel
theorem dX9_pair_77 : decode cX9_pair 77 = .ok (.aload_n 0, 1) := by decide +kernel
theorem dX9_pair_78 : decode cX9_pair 78 = .ok (.getfield 221, 3) := by decide +kernel
theorem dX9_pair_81 : decode cX9_pair 81 = .ok (.aload_n 0, 1) := by decide +kernel
theorem dX9_pair_82 : decode cX9_pair 82 = .ok (.getfield 28, 3) := by decide +kernel
theorem dX9_pair_85 : decode cX9_pair 85 = .ok (.iload_n 3, 1) := by decide +kernel
theorem dX9_pair_86 : decode cX9_pair 86 = .ok (.iaload, 1) := by decide +kernel
theorem dX9_pair_87 : decode cX9_pair 87 = .ok (.iconst 1, 1) := by decide +kernel
theorem dX9_pair_88 : decode cX9_pair 88 = .ok (.invokevirtual 180, 3) := by decide +kernel
theorem dX9_pair_91 : decode cX9_pair 91 = .ok (.istore 4, 2) := by decide +kernel
theorem dX9_pair_93 : decode cX9_pair 93 = .ok (.iinc 2 1, 3) := by decide +kernel
theorem dX9_pair_96 : decode cX9_pair 96 = .ok (.iinc 3 1, 3) := by decide +kernel
theorem dX9_pair_99 : decode cX9_pair 99 = .ok (.goto (-67), 3) := by decide +kernel
theorem dX9_pair_102 : decode cX9_pair 102 = .ok (.iload_n 2, 1) := by decide +kernel
theorem dX9_pair_103 : decode cX9_pair 103 = .ok (.ireturn, 1) := by decide +kernel
theorem dX9_offer_0 : decode cX9_offer 0 = .ok (.aload_n 0, 1) := by decide +kernel
theorem dX9_offer_1 : decode cX9_offer 1 = .ok (.iload_n 1, 1) := by decide +kernel
theorem dX9_offer_2 : decode cX9_offer 2 = .ok (.invokevirtual 100, 3) := by decide +kernel
theorem dX9_offer_5 : decode cX9_offer 5 = .ok (.ifCond .eq 12, 3) := by decide +kernel
theorem dX9_offer_8 : decode cX9_offer 8 = .ok (.iload_n 2, 1) := by decide +kernel
theorem dX9_offer_9 : decode cX9_offer 9 = .ok (.iconst 0, 1) := by decide +kernel
theorem dX9_offer_10 : decode cX9_offer 10 = .ok (.iconst 2, 1) := by decide +kernel
theorem dX9_offer_11 : decode cX9_offer 11 = .ok (.invokestatic 59, 3) := by decide +kernel
theorem dX9_offer_14 : decode cX9_offer 14 = .ok (.ifCond .ne 5, 3) := by decide +kernel
theorem dX9_offer_17 : decode cX9_offer 17 = .ok (.iconst (-1), 1) := by decide +kernel
theorem dX9_offer_18 : decode cX9_offer 18 = .ok (.ireturn, 1) := by decide +kernel
theorem dX9_offer_19 : decode cX9_offer 19 = .ok (.aload_n 0, 1) := by decide +kernel
theorem dX9_offer_20 : decode cX9_offer 20 = .ok (.iload_n 1, 1) := by decide +kernel
theorem dX9_offer_21 : decode cX9_offer 21 = .ok (.invokevirtual 206, 3) := by decide +kernel
theorem dX9_offer_24 : decode cX9_offer 24 = .ok (.ifCond .ne 6, 3) := by decide +kernel
theorem dX9_offer_27 : decode cX9_offer 27 = .ok (.bipush (-2), 2) := by decide +kernel
theorem dX9_offer_29 : decode cX9_offer 29 = .ok (.ireturn, 1) := by decide +kernel
theorem dX9_offer_30 : decode cX9_offer 30 = .ok (.aload_n 0, 1) := by decide +kernel
theorem dX9_offer_31 : decode cX9_offer 31 = .ok (.iload_n 1, 1) := by decide +kernel
theorem dX9_offer_32 : decode cX9_offer 32 = .ok (.invokevirtual 240, 3) := by decide +kernel
theorem dX9_offer_35 : decode cX9_offer 35 = .ok (.aload_n 0, 1) := by decide +kernel
theorem dX9_offer_36 : decode cX9_offer 36 = .ok (.getfield 221, 3) := by decide +kernel
theorem dX9_offer_39 : decode cX9_offer 39 = .ok (.ifCond .ge 8, 3) := by decide +kernel
theorem dX9_offer_42 : decode cX9_offer 42 = .ok (.bipush (-2), 2) := by decide +kernel
theorem dX9_offer_44 : decode cX9_offer 44 = .ok (.goto 30, 3) := by decide +kernel
theorem dX9_offer_47 : decode cX9_offer 47 = .ok (.iload_n 2, 1) := by decide +kernel
theorem dX9_offer_48 : decode cX9_offer 48 = .ok (.ifCond .ne 10, 3) := by decide +kernel
theorem dX9_offer_51 : decode cX9_offer 51 = .ok (.aload_n 0, 1) := by decide +kernel
theorem dX9_offer_52 : decode cX9_offer 52 = .ok (.getfield 221, 3) := by decide +kernel
theorem dX9_offer_55 : decode cX9_offer 55 = .ok (.goto 19, 3) := by decide +kernel
theorem dX9_offer_58 : decode cX9_offer 58 = .ok (.iload_n 2, 1) := by decide +kernel
theorem dX9_offer_59 : decode cX9_offer 59 = .ok (.iconst 1, 1) := by decide +kernel
theorem dX9_offer_60 : decode cX9_offer 60 = .ok (.if_icmp .ne 10, 3) := by decide +kernel
theorem dX9_offer_63 : decode cX9_offer 63 = .ok (.aload_n 0, 1) := by decide +kernel
theorem dX9_offer_64 : decode cX9_offer 64 = .ok (.getfield 230, 3) := by decide +kernel
theorem dX9_offer_67 : decode cX9_offer 67 = .ok (.goto 7, 3) := by decide +kernel
theorem dX9_offer_70 : decode cX9_offer 70 = .ok (.aload_n 0, 1) := by decide +kernel
theorem dX9_offer_71 : decode cX9_offer 71 = .ok (.getfield 224, 3) := by decide +kernel
theorem dX9_offer_74 : decode cX9_offer 74 = .ok (.ireturn, 1) := by decide +kernel
theorem dX9_repair_0 : decode cX9_repair 0 = .ok (.aload_n 0, 1) := by decide +kernel
theorem dX9_repair_1 : decode cX9_repair 1 = .ok (.invokevirtual 88, 3) := by decide +kernel
theorem dX9_repair_4 : decode cX9_repair 4 = .ok (.aload_n 0, 1) := by decide +kernel
theorem dX9_repair_5 : decode cX9_repair 5 = .ok (.iconst 0, 1) := by decide +kernel
theorem dX9_repair_6 : decode cX9_repair 6 = .ok (.putfield 243, 3) := by decide +kernel
theorem dX9_repair_9 : decode cX9_repair 9 = .ok (.iconst 0, 1) := by decide +kernel
theorem dX9_repair_10 : decode cX9_repair 10 = .ok (.istore_n 1, 1) := by decide +kernel
theorem dX9_repair_11 : decode cX9_repair 11 = .ok (.iload_n 1, 1) := by decide +kernel
theorem dX9_repair_12 : decode cX9_repair 12 = .ok (.aload_n 0, 1) := by decide +kernel
theorem dX9_repair_13 : decode cX9_repair 13 = .ok (.getfield 9, 3) := by decide +kernel
theorem dX9_repair_16 : decode cX9_repair 16 = .ok (.iconst 1, 1) := by decide +kernel
theorem dX9_repair_17 : decode cX9_repair 17 = .ok (.iaload, 1) := by decide +kernel
theorem dX9_repair_18 : decode cX9_repair 18 = .ok (.if_icmp .ge 120, 3) := by decide +kernel
theorem dX9_repair_21 : decode cX9_repair 21 = .ok (.aload_n 0, 1) := by decide +kernel
theorem dX9_repair_22 : decode cX9_repair 22 = .ok (.iload_n 1, 1) := by decide +kernel
theorem dX9_repair_23 : decode cX9_repair 23 = .ok (.invokevirtual 165, 3) := by decide +kernel
theorem dX9_repair_26 : decode cX9_repair 26 = .ok (.aload_n 0, 1) := by decide +kernel
theorem dX9_repair_27 : decode cX9_repair 27 = .ok (.iconst 0, 1) := by decide +kernel
theorem dX9_repair_28 : decode cX9_repair 28 = .ok (.invokevirtual 154, 3) := by decide +kernel
theorem dX9_repair_31 : decode cX9_repair 31 = .ok (.istore_n 2, 1) := by decide +kernel
theorem dX9_repair_32 : decode cX9_repair 32 = .ok (.iload_n 2, 1) := by decide +kernel
theorem dX9_repair_33 : decode cX9_repair 33 = .ok (.ifCond .le 94, 3) := by decide +kernel
theorem dX9_repair_36 : decode cX9_repair 36 = .ok (.iconst 4, 1) := by decide +kernel
theorem dX9_repair_37 : decode cX9_repair 37 = .ok (.aload_n 0, 1) := by decide +kernel
theorem dX9_repair_38 : decode cX9_repair 38 = .ok (.getfield 243, 3) := by decide +kernel
theorem dX9_repair_41 : decode cX9_repair 41 = .ok (.imul, 1) := by decide +kernel
theorem dX9_repair_42 : decode cX9_repair 42 = .ok (.istore_n 3, 1) := by decide +kernel
theorem dX9_repair_43 : decode cX9_repair 43 = .ok (.aload_n 0, 1) := by decide +kernel
theorem dX9_repair_44 : decode cX9_repair 44 = .ok (.getfield 31, 3) := by decide +kernel
theorem dX9_repair_47 : decode cX9_repair 47 = .ok (.iload_n 3, 1) := by decide +kernel
theorem dX9_repair_48 : decode cX9_repair 48 = .ok (.iload_n 1, 1) := by decide +kernel
theorem dX9_repair_49 : decode cX9_repair 49 = .ok (.iastore, 1) := by decide +kernel
theorem dX9_repair_50 : decode cX9_repair 50 = .ok (.aload_n 0, 1) := by decide +kernel
theorem dX9_repair_51 : decode cX9_repair 51 = .ok (.getfield 31, 3) := by decide +kernel
theorem dX9_repair_54 : decode cX9_repair 54 = .ok (.iload_n 3, 1) := by decide +kernel
theorem dX9_repair_55 : decode cX9_repair 55 = .ok (.iconst 1, 1) := by decide +kernel
theorem dX9_repair_56 : decode cX9_repair 56 = .ok (.iadd, 1) := by decide +kernel
theorem dX9_repair_57 : decode cX9_repair 57 = .ok (.aload_n 0, 1) := by decide +kernel
theorem dX9_repair_58 : decode cX9_repair 58 = .ok (.iload_n 2, 1) := by decide +kernel
theorem dX9_repair_59 : decode cX9_repair 59 = .ok (.bipush 100, 2) := by decide +kernel
theorem dX9_repair_61 : decode cX9_repair 61 = .ok (.irem, 1) := by decide +kernel
theorem dX9_repair_62 : decode cX9_repair 62 = .ok (.invokevirtual 120, 3) := by decide +kernel
theorem dX9_repair_65 : decode cX9_repair 65 = .ok (.iastore, 1) := by decide +kernel
theorem dX9_repair_66 : decode cX9_repair 66 = .ok (.aload_n 0, 1) := by decide +kernel
theorem dX9_repair_67 : decode cX9_repair 67 = .ok (.getfield 31, 3) := by decide +kernel
theorem dX9_repair_70 : decode cX9_repair 70 = .ok (.iload_n 3, 1) := by decide +kernel
theorem dX9_repair_71 : decode cX9_repair 71 = .ok (.iconst 2, 1) := by decide +kernel
theorem dX9_repair_72 : decode cX9_repair 72 = .ok (.iadd, 1) := by decide +kernel
theorem dX9_repair_73 : decode cX9_repair 73 = .ok (.aload_n 0, 1) := by decide +kernel
theorem dX9_repair_74 : decode cX9_repair 74 = .ok (.iload_n 2, 1) := by decide +kernel
theorem dX9_repair_75 : decode cX9_repair 75 = .ok (.bipush 100, 2) := by decide +kernel
theorem dX9_repair_77 : decode cX9_repair 77 = .ok (.irem, 1) := by decide +kernel
theorem dX9_repair_78 : decode cX9_repair 78 = .ok (.invokevirtual 132, 3) := by decide +kernel
theorem dX9_repair_81 : decode cX9_repair 81 = .ok (.ifCond .eq 7, 3) := by decide +kernel
theorem dX9_repair_84 : decode cX9_repair 84 = .ok (.iconst 1, 1) := by decide +kernel
theorem dX9_repair_85 : decode cX9_repair 85 = .ok (.goto 4, 3) := by decide +kernel
theorem dX9_repair_88 : decode cX9_repair 88 = .ok (.iconst 0, 1) := by decide +kernel
theorem dX9_repair_89 : decode cX9_repair 89 = .ok (.iastore, 1) := by decide +kernel
theorem dX9_repair_90 : decode cX9_repair 90 = .ok (.aload_n 0, 1) := by decide +kernel
theorem dX9_repair_91 : decode cX9_repair 91 = .ok (.getfield 31, 3) := by decide +kernel
theorem dX9_repair_94 : decode cX9_repair 94 = .ok (.iload_n 3, 1) := by decide +kernel
theorem dX9_repair_95 : decode cX9_repair 95 = .ok (.iconst 3, 1) := by decide +kernel
theorem dX9_repair_96 : decode cX9_repair 96 = .ok (.iadd, 1) := by decide +kernel
theorem dX9_repair_97 : decode cX9_repair 97 = .ok (.bipush (-2), 2) := by decide +kernel
theorem dX9_repair_99 : decode cX9_repair 99 = .ok (.iastore, 1) := by decide +kernel
theorem dX9_repair_100 : decode cX9_repair 100 = .ok (.aload_n 0, 1) := by decide +kernel
theorem dX9_repair_101 : decode cX9_repair 101 = .ok (.dup, 1) := by decide +kernel
theorem dX9_repair_102 : decode cX9_repair 102 = .ok (.getfield 243, 3) := by decide +kernel
theorem dX9_repair_105 : decode cX9_repair 105 = .ok (.iconst 1, 1) := by decide +kernel
theorem dX9_repair_106 : decode cX9_repair 106 = .ok (.iadd, 1) := by decide +kernel
theorem dX9_repair_107 : decode cX9_repair 107 = .ok (.putfield 243, 3) := by decide +kernel
theorem dX9_repair_110 : decode cX9_repair 110 = .ok (.aload_n 0, 1) := by decide +kernel
theorem dX9_repair_111 : decode cX9_repair 111 = .ok (.iload_n 2, 1) := by decide +kernel
theorem dX9_repair_112 : decode cX9_repair 112 = .ok (.bipush 100, 2) := by decide +kernel
theorem dX9_repair_114 : decode cX9_repair 114 = .ok (.irem, 1) := by decide +kernel
theorem dX9_repair_115 : decode cX9_repair 115 = .ok (.invokevirtual 161, 3) := by decide +kernel
theorem dX9_repair_118 : decode cX9_repair 118 = .ok (.aload_n 0, 1) := by decide +kernel
theorem dX9_repair_119 : decode cX9_repair 119 = .ok (.iconst 0, 1) := by decide +kernel
theorem dX9_repair_120 : decode cX9_repair 120 = .ok (.invokevirtual 154, 3) := by decide +kernel
theorem dX9_repair_123 : decode cX9_repair 123 = .ok (.istore_n 2, 1) := by decide +kernel
theorem dX9_repair_124 : decode cX9_repair 124 = .ok (.goto (-92), 3) := by decide +kernel
theorem dX9_repair_127 : decode cX9_repair 127 = .ok (.aload_n 0, 1) := by decide +kernel
theorem dX9_repair_128 : decode cX9_repair 128 = .ok (.iload_n 1, 1) := by decide +kernel
theorem dX9_repair_129 : decode cX9_repair 129 = .ok (.invokevirtual 171, 3) := by decide +kernel
theorem dX9_repair_132 : decode cX9_repair 132 = .ok (.iinc 1 1, 3) := by decide +kernel
theorem dX9_repair_135 : decode cX9_repair 135 = .ok (.goto (-124), 3) := by decide +kernel
theorem dX9_repair_138 : decode cX9_repair 138 = .ok (.aload_n 0, 1) := by decide +kernel
theorem dX9_repair_139 : decode cX9_repair 139 = .ok (.invokevirtual 209, 3) := by decide +kernel
theorem dX9_repair_142 : decode cX9_repair 142 = .ok (.aload_n 0, 1) := by decide +kernel
theorem dX9_repair_143 : decode cX9_repair 143 = .ok (.getfield 203, 3) := by decide +kernel
theorem dX9_repair_146 : decode cX9_repair 146 = .ok (.istore_n 1, 1) := by decide +kernel
theorem dX9_repair_147 : decode cX9_repair 147 = .ok (.aload_n 0, 1) := by decide +kernel
theorem dX9_repair_148 : decode cX9_repair 148 = .ok (.getfield 25, 3) := by decide +kernel
theorem dX9_repair_151 : decode cX9_repair 151 = .ok (.iconst 0, 1) := by decide +kernel
theorem dX9_repair_152 : decode cX9_repair 152 = .ok (.aload_n 0, 1) := by decide +kernel
theorem dX9_repair_153 : decode cX9_repair 153 = .ok (.getfield 28, 3) := by decide +kernel
theorem dX9_repair_156 : decode cX9_repair 156 = .ok (.iconst 0, 1) := by decide +kernel
theorem dX9_repair_157 : decode cX9_repair 157 = .ok (.bipush 25, 2) := by decide +kernel
theorem dX9_repair_159 : decode cX9_repair 159 = .ok (.invokestatic 53, 3) := by decide +kernel
theorem dX9_repair_162 : decode cX9_repair 162 = .ok (.iconst 0, 1) := by decide +kernel
theorem dX9_repair_163 : decode cX9_repair 163 = .ok (.istore_n 2, 1) := by decide +kernel
theorem dX9_repair_164 : decode cX9_repair 164 = .ok (.iload_n 2, 1) := by decide +kernel
theorem dX9_repair_165 : decode cX9_repair 165 = .ok (.iload_n 1, 1) := by decide +kernel
theorem dX9_repair_166 : decode cX9_repair 166 = .ok (.if_icmp .ge 69, 3) := by decide +kernel
theorem dX9_repair_169 : decode cX9_repair 169 = .ok (.iconst 0, 1) := by decide +kernel
theorem dX9_repair_170 : decode cX9_repair 170 = .ok (.istore_n 3, 1) := by decide +kernel
theorem dX9_repair_171 : decode cX9_repair 171 = .ok (.iload_n 3, 1) := by decide +kernel
theorem dX9_repair_172 : decode cX9_repair 172 = .ok (.aload_n 0, 1) := by decide +kernel
theorem dX9_repair_173 : decode cX9_repair 173 = .ok (.getfield 243, 3) := by decide +kernel
theorem dX9_repair_176 : decode cX9_repair 176 = .ok (.if_icmp .ge 53, 3) := by decide +kernel
theorem dX9_repair_179 : decode cX9_repair 179 = .ok (.aload_n 0, 1) := by decide +kernel
theorem dX9_repair_180 : decode cX9_repair 180 = .ok (.getfield 31, 3) := by decide +kernel
theorem dX9_repair_183 : decode cX9_repair 183 = .ok (.iconst 4, 1) := by decide +kernel
theorem dX9_repair_184 : decode cX9_repair 184 = .ok (.iload_n 3, 1) := by decide +kernel
theorem dX9_repair_185 : decode cX9_repair 185 = .ok (.imul, 1) := by decide +kernel
theorem dX9_repair_186 : decode cX9_repair 186 = .ok (.iconst 1, 1) := by decide +kernel
theorem dX9_repair_187 : decode cX9_repair 187 = .ok (.iadd, 1) := by decide +kernel
theorem dX9_repair_188 : decode cX9_repair 188 = .ok (.iaload, 1) := by decide +kernel
theorem dX9_repair_189 : decode cX9_repair 189 = .ok (.aload_n 0, 1) := by decide +kernel
theorem dX9_repair_190 : decode cX9_repair 190 = .ok (.getfield 28, 3) := by decide +kernel
theorem dX9_repair_193 : decode cX9_repair 193 = .ok (.iload_n 2, 1) := by decide +kernel
theorem dX9_repair_194 : decode cX9_repair 194 = .ok (.iaload, 1) := by decide +kernel
theorem dX9_repair_195 : decode cX9_repair 195 = .ok (.if_icmp .ne 28, 3) := by decide +kernel
theorem dX9_repair_198 : decode cX9_repair 198 = .ok (.aload_n 0, 1) := by decide +kernel
theorem dX9_repair_199 : decode cX9_repair 199 = .ok (.getfield 31, 3) := by decide +kernel
theorem dX9_repair_202 : decode cX9_repair 202 = .ok (.iconst 4, 1) := by decide +kernel
theorem dX9_repair_203 : decode cX9_repair 203 = .ok (.iload_n 3, 1) := by decide +kernel
theorem dX9_repair_204 : decode cX9_repair 204 = .ok (.imul, 1) := by decide +kernel
theorem dX9_repair_205 : decode cX9_repair 205 = .ok (.iconst 2, 1) := by decide +kernel
theorem dX9_repair_206 : decode cX9_repair 206 = .ok (.iadd, 1) := by decide +kernel
theorem dX9_repair_207 : decode cX9_repair 207 = .ok (.iaload, 1) := by decide +kernel
theorem dX9_repair_208 : decode cX9_repair 208 = .ok (.iconst 1, 1) := by decide +kernel
theorem dX9_repair_209 : decode cX9_repair 209 = .ok (.if_icmp .ne 14, 3) := by decide +kernel
theorem dX9_repair_212 : decode cX9_repair 212 = .ok (.aload_n 0, 1) := by decide +kernel
theorem dX9_repair_213 : decode cX9_repair 213 = .ok (.iload_n 3, 1) := by decide +kernel
theorem dX9_repair_214 : decode cX9_repair 214 = .ok (.aload_n 0, 1) := by decide +kernel
theorem dX9_repair_215 : decode cX9_repair 215 = .ok (.getfield 28, 3) := by decide +kernel
theorem dX9_repair_218 : decode cX9_repair 218 = .ok (.iload_n 2, 1) := by decide +kernel
theorem dX9_repair_219 : decode cX9_repair 219 = .ok (.iaload, 1) := by decide +kernel
theorem dX9_repair_220 : decode cX9_repair 220 = .ok (.invokevirtual 246, 3) := by decide +kernel
theorem dX9_repair_223 : decode cX9_repair 223 = .ok (.iinc 3 1, 3) := by decide +kernel
theorem dX9_repair_226 : decode cX9_repair 226 = .ok (.goto (-55), 3) := by decide +kernel
theorem dX9_repair_229 : decode cX9_repair 229 = .ok (.iinc 2 1, 3) := by decide +kernel
theorem dX9_repair_232 : decode cX9_repair 232 = .ok (.goto (-68), 3) := by decide +kernel
theorem dX9_repair_235 : decode cX9_repair 235 = .ok (.aload_n 0, 1) := by decide +kernel
theorem dX9_repair_236 : decode cX9_repair 236 = .ok (.getfield 243, 3) := by decide +kernel
theorem dX9_repair_239 : decode cX9_repair 239 = .ok (.ireturn, 1) := by decide +kernel
theorem dX9_callFor_0 : decode cX9_callFor 0 = .ok (.aload_n 0, 1) := by decide +kernel
theorem dX9_callFor_1 : decode cX9_callFor 1 = .ok (.iload_n 2, 1) := by decide +kernel
theorem dX9_callFor_2 : decode cX9_callFor 2 = .ok (.invokevirtual 218, 3) := by decide +kernel
theorem dX9_callFor_5 : decode cX9_callFor 5 = .ok (.istore_n 3, 1) := by decide +kernel
theorem dX9_callFor_6 : decode cX9_callFor 6 = .ok (.aload_n 0, 1) := by decide +kernel
theorem dX9_callFor_7 : decode cX9_callFor 7 = .ok (.getfield 31, 3) := by decide +kernel
theorem dX9_callFor_10 : decode cX9_callFor 10 = .ok (.iconst 4, 1) := by decide +kernel
theorem dX9_callFor_11 : decode cX9_callFor 11 = .ok (.iload_n 1, 1) := by decide +kernel
theorem dX9_callFor_12 : decode cX9_callFor 12 = .ok (.imul, 1) := by decide +kernel
theorem dX9_callFor_13 : decode cX9_callFor 13 = .ok (.iconst 3, 1) := by decide +kernel
theorem dX9_callFor_14 : decode cX9_callFor 14 = .ok (.iadd, 1) := by decide +kernel
theorem dX9_callFor_15 : decode cX9_callFor 15 = .ok (.iload_n 3, 1) := by decide +kernel
theorem dX9_callFor_16 : decode cX9_callFor 16 = .ok (.iastore, 1) := by decide +kernel
theorem dX9_callFor_17 : decode cX9_callFor 17 = .ok (.iload_n 3, 1) := by decide +kernel
theorem dX9_callFor_18 : decode cX9_callFor 18 = .ok (.ifCond .lt 12, 3) := by decide +kernel
theorem dX9_callFor_21 : decode cX9_callFor 21 = .ok (.aload_n 0, 1) := by decide +kernel
theorem dX9_callFor_22 : decode cX9_callFor 22 = .ok (.iload_n 3, 1) := by decide +kernel
theorem dX9_callFor_23 : decode cX9_callFor 23 = .ok (.iload_n 2, 1) := by decide +kernel
theorem dX9_callFor_24 : decode cX9_callFor 24 = .ok (.iconst 1, 1) := by decide +kernel
theorem dX9_callFor_25 : decode cX9_callFor 25 = .ok (.invokevirtual 180, 3) := by decide +kernel
theorem dX9_callFor_28 : decode cX9_callFor 28 = .ok (.istore 4, 2) := by decide +kernel
theorem dX9_callFor_30 : decode cX9_callFor 30 = .ok (.return_, 1) := by decide +kernel
theorem dX9_repaired_0 : decode cX9_repaired 0 = .ok (.iload_n 2, 1) := by decide +kernel
theorem dX9_repaired_1 : decode cX9_repaired 1 = .ok (.iconst 0, 1) := by decide +kernel
theorem dX9_repaired_2 : decode cX9_repaired 2 = .ok (.iconst 3, 1) := by decide +kernel
theorem dX9_repaired_3 : decode cX9_repaired 3 = .ok (.invokestatic 59, 3) := by decide +kernel
theorem dX9_repaired_6 : decode cX9_repaired 6 = .ok (.ifCond .ne 5, 3) := by decide +kernel
theorem dX9_repaired_9 : decode cX9_repaired 9 = .ok (.iconst (-1), 1) := by decide +kernel
theorem dX9_repaired_10 : decode cX9_repaired 10 = .ok (.ireturn, 1) := by decide +kernel
theorem dX9_repaired_11 : decode cX9_repaired 11 = .ok (.iload_n 1, 1) := by decide +kernel
theorem dX9_repaired_12 : decode cX9_repaired 12 = .ok (.iconst 0, 1) := by decide +kernel
theorem dX9_repaired_13 : decode cX9_repaired 13 = .ok (.aload_n 0, 1) := by decide +kernel
theorem dX9_repaired_14 : decode cX9_repaired 14 = .ok (.getfield 243, 3) := by decide +kernel
theorem dX9_repaired_17 : decode cX9_repaired 17 = .ok (.iconst 1, 1) := by decide +kernel
theorem dX9_repaired_18 : decode cX9_repaired 18 = .ok (.isub, 1) := by decide +kernel
theorem dX9_repaired_19 : decode cX9_repaired 19 = .ok (.invokestatic 59, 3) := by decide +kernel
theorem dX9_repaired_22 : decode cX9_repaired 22 = .ok (.ifCond .eq 16, 3) := by decide +kernel
theorem dX9_repaired_25 : decode cX9_repaired 25 = .ok (.aload_n 0, 1) := by decide +kernel
theorem dX9_repaired_26 : decode cX9_repaired 26 = .ok (.getfield 31, 3) := by decide +kernel
theorem dX9_repaired_29 : decode cX9_repaired 29 = .ok (.iconst 4, 1) := by decide +kernel
theorem dX9_repaired_30 : decode cX9_repaired 30 = .ok (.iload_n 1, 1) := by decide +kernel
theorem dX9_repaired_31 : decode cX9_repaired 31 = .ok (.imul, 1) := by decide +kernel
theorem dX9_repaired_32 : decode cX9_repaired 32 = .ok (.iload_n 2, 1) := by decide +kernel
theorem dX9_repaired_33 : decode cX9_repaired 33 = .ok (.iadd, 1) := by decide +kernel
theorem dX9_repaired_34 : decode cX9_repaired 34 = .ok (.iaload, 1) := by decide +kernel
theorem dX9_repaired_35 : decode cX9_repaired 35 = .ok (.goto 5, 3) := by decide +kernel
theorem dX9_repaired_38 : decode cX9_repaired 38 = .ok (.bipush (-2), 2) := by decide +kernel
theorem dX9_repaired_40 : decode cX9_repaired 40 = .ok (.ireturn, 1) := by decide +kernel
theorem dX9_search_0 : decode cX9_search 0 = .ok (.iload_n 1, 1) := by decide +kernel
theorem dX9_search_1 : decode cX9_search 1 = .ok (.ifCond .le 58, 3) := by decide +kernel
theorem dX9_search_4 : decode cX9_search 4 = .ok (.aload_n 0, 1) := by decide +kernel
theorem dX9_search_5 : decode cX9_search 5 = .ok (.invokevirtual 196, 3) := by decide +kernel
theorem dX9_search_8 : decode cX9_search 8 = .ok (.ifCond .eq 51, 3) := by decide +kernel
theorem dX9_search_11 : decode cX9_search 11 = .ok (.iload_n 2, 1) := by decide +kernel
theorem dX9_search_12 : decode cX9_search 12 = .ok (.aload_n 0, 1) := by decide +kernel
theorem dX9_search_13 : decode cX9_search 13 = .ok (.getfield 250, 3) := by decide +kernel
theorem dX9_search_16 : decode cX9_search 16 = .ok (.if_icmp .gt 19, 3) := by decide +kernel
theorem dX9_search_19 : decode cX9_search 19 = .ok (.iload_n 2, 1) := by decide +kernel
theorem dX9_search_20 : decode cX9_search 20 = .ok (.aload_n 0, 1) := by decide +kernel
theorem dX9_search_21 : decode cX9_search 21 = .ok (.getfield 250, 3) := by decide +kernel
theorem dX9_search_24 : decode cX9_search 24 = .ok (.if_icmp .ne 35, 3) := by decide +kernel
theorem dX9_search_27 : decode cX9_search 27 = .ok (.iload_n 1, 1) := by decide +kernel
theorem dX9_search_28 : decode cX9_search 28 = .ok (.aload_n 0, 1) := by decide +kernel
theorem dX9_search_29 : decode cX9_search 29 = .ok (.getfield 253, 3) := by decide +kernel
theorem dX9_search_32 : decode cX9_search 32 = .ok (.if_icmp .ge 27, 3) := by decide +kernel
theorem dX9_search_35 : decode cX9_search 35 = .ok (.aload_n 0, 1) := by decide +kernel
theorem dX9_search_36 : decode cX9_search 36 = .ok (.iload_n 2, 1) := by decide +kernel
theorem dX9_search_37 : decode cX9_search 37 = .ok (.putfield 250, 3) := by decide +kernel
theorem dX9_search_40 : decode cX9_search 40 = .ok (.aload_n 0, 1) := by decide +kernel
theorem dX9_search_41 : decode cX9_search 41 = .ok (.iload_n 1, 1) := by decide +kernel
theorem dX9_search_42 : decode cX9_search 42 = .ok (.putfield 253, 3) := by decide +kernel
theorem dX9_search_45 : decode cX9_search 45 = .ok (.aload_n 0, 1) := by decide +kernel
theorem dX9_search_46 : decode cX9_search 46 = .ok (.getfield 34, 3) := by decide +kernel
theorem dX9_search_49 : decode cX9_search 49 = .ok (.iconst 0, 1) := by decide +kernel
theorem dX9_search_50 : decode cX9_search 50 = .ok (.aload_n 0, 1) := by decide +kernel
theorem dX9_search_51 : decode cX9_search 51 = .ok (.getfield 37, 3) := by decide +kernel
theorem dX9_search_54 : decode cX9_search 54 = .ok (.iconst 0, 1) := by decide +kernel
theorem dX9_search_55 : decode cX9_search 55 = .ok (.iload_n 1, 1) := by decide +kernel
theorem dX9_search_56 : decode cX9_search 56 = .ok (.invokestatic 53, 3) := by decide +kernel
theorem dX9_search_59 : decode cX9_search 59 = .ok (.iconst 0, 1) := by decide +kernel
theorem dX9_search_60 : decode cX9_search 60 = .ok (.istore 4, 2) := by decide +kernel
theorem dX9_search_62 : decode cX9_search 62 = .ok (.iload 4, 2) := by decide +kernel
theorem dX9_search_64 : decode cX9_search 64 = .ok (.aload_n 0, 1) := by decide +kernel
theorem dX9_search_65 : decode cX9_search 65 = .ok (.getfield 9, 3) := by decide +kernel
theorem dX9_search_68 : decode cX9_search 68 = .ok (.iconst 0, 1) := by decide +kernel
theorem dX9_search_69 : decode cX9_search 69 = .ok (.iaload, 1) := by decide +kernel
theorem dX9_search_70 : decode cX9_search 70 = .ok (.if_icmp .ge 99, 3) := by decide +kernel
theorem dX9_search_73 : decode cX9_search 73 = .ok (.iload_n 1, 1) := by decide +kernel
theorem dX9_search_74 : decode cX9_search 74 = .ok (.bipush 6, 2) := by decide +kernel
theorem dX9_search_76 : decode cX9_search 76 = .ok (.if_icmp .ge 93, 3) := by decide +kernel
theorem dX9_search_79 : decode cX9_search 79 = .ok (.aload_n 0, 1) := by decide +kernel
theorem dX9_search_80 : decode cX9_search 80 = .ok (.iload 4, 2) := by decide +kernel
theorem dX9_search_82 : decode cX9_search 82 = .ok (.iconst 2, 1) := by decide +kernel
theorem dX9_search_83 : decode cX9_search 83 = .ok (.invokevirtual 63, 3) := by decide +kernel
theorem dX9_search_86 : decode cX9_search 86 = .ok (.iload_n 3, 1) := by decide +kernel
theorem dX9_search_87 : decode cX9_search 87 = .ok (.if_icmp .le 76, 3) := by decide +kernel
theorem dX9_search_90 : decode cX9_search 90 = .ok (.aload_n 0, 1) := by decide +kernel
theorem dX9_search_91 : decode cX9_search 91 = .ok (.iload 4, 2) := by decide +kernel
theorem dX9_search_93 : decode cX9_search 93 = .ok (.invokevirtual 206, 3) := by decide +kernel
theorem dX9_search_96 : decode cX9_search 96 = .ok (.ifCond .eq 67, 3) := by decide +kernel
theorem dX9_search_99 : decode cX9_search 99 = .ok (.aload_n 0, 1) := by decide +kernel
theorem dX9_search_100 : decode cX9_search 100 = .ok (.iload 4, 2) := by decide +kernel
theorem dX9_search_102 : decode cX9_search 102 = .ok (.iconst 1, 1) := by decide +kernel
theorem dX9_search_103 : decode cX9_search 103 = .ok (.invokevirtual 157, 3) := by decide +kernel
theorem dX9_search_106 : decode cX9_search 106 = .ok (.istore 5, 2) := by decide +kernel
theorem dX9_search_108 : decode cX9_search 108 = .ok (.iload 5, 2) := by decide +kernel
theorem dX9_search_110 : decode cX9_search 110 = .ok (.aload_n 0, 1) := by decide +kernel
theorem dX9_search_111 : decode cX9_search 111 = .ok (.getfield 114, 3) := by decide +kernel
theorem dX9_search_114 : decode cX9_search 114 = .ok (.iconst 1, 1) := by decide +kernel
theorem dX9_search_115 : decode cX9_search 115 = .ok (.isub, 1) := by decide +kernel
theorem dX9_search_116 : decode cX9_search 116 = .ok (.if_icmp .ne 41, 3) := by decide +kernel
theorem dX9_search_119 : decode cX9_search 119 = .ok (.aload_n 0, 1) := by decide +kernel
theorem dX9_search_120 : decode cX9_search 120 = .ok (.iconst 0, 1) := by decide +kernel
theorem dX9_search_121 : decode cX9_search 121 = .ok (.invokevirtual 154, 3) := by decide +kernel
theorem dX9_search_124 : decode cX9_search 124 = .ok (.ifCond .ne 33, 3) := by decide +kernel
theorem dX9_search_127 : decode cX9_search 127 = .ok (.aload_n 0, 1) := by decide +kernel
theorem dX9_search_128 : decode cX9_search 128 = .ok (.getfield 34, 3) := by decide +kernel
theorem dX9_search_131 : decode cX9_search 131 = .ok (.iload_n 1, 1) := by decide +kernel
theorem dX9_search_132 : decode cX9_search 132 = .ok (.iload 4, 2) := by decide +kernel
theorem dX9_search_134 : decode cX9_search 134 = .ok (.iastore, 1) := by decide +kernel
theorem dX9_search_135 : decode cX9_search 135 = .ok (.aload_n 0, 1) := by decide +kernel
theorem dX9_search_136 : decode cX9_search 136 = .ok (.iload_n 1, 1) := by decide +kernel
theorem dX9_search_137 : decode cX9_search 137 = .ok (.iconst 1, 1) := by decide +kernel
theorem dX9_search_138 : decode cX9_search 138 = .ok (.iadd, 1) := by decide +kernel
theorem dX9_search_139 : decode cX9_search 139 = .ok (.iload_n 2, 1) := by decide +kernel
theorem dX9_search_140 : decode cX9_search 140 = .ok (.aload_n 0, 1) := by decide +kernel
theorem dX9_search_141 : decode cX9_search 141 = .ok (.iload 4, 2) := by decide +kernel
theorem dX9_search_143 : decode cX9_search 143 = .ok (.invokevirtual 135, 3) := by decide +kernel
theorem dX9_search_146 : decode cX9_search 146 = .ok (.iadd, 1) := by decide +kernel
theorem dX9_search_147 : decode cX9_search 147 = .ok (.aload_n 0, 1) := by decide +kernel
theorem dX9_search_148 : decode cX9_search 148 = .ok (.iload 4, 2) := by decide +kernel
theorem dX9_search_150 : decode cX9_search 150 = .ok (.iconst 2, 1) := by decide +kernel
theorem dX9_search_151 : decode cX9_search 151 = .ok (.invokevirtual 63, 3) := by decide +kernel
theorem dX9_search_154 : decode cX9_search 154 = .ok (.invokevirtual 256, 3) := by decide +kernel
theorem dX9_search_157 : decode cX9_search 157 = .ok (.aload_n 0, 1) := by decide +kernel
theorem dX9_search_158 : decode cX9_search 158 = .ok (.iload 5, 2) := by decide +kernel
theorem dX9_search_160 : decode cX9_search 160 = .ok (.invokevirtual 161, 3) := by decide +kernel
theorem dX9_search_163 : decode cX9_search 163 = .ok (.iinc 4 1, 3) := by decide +kernel
theorem dX9_search_166 : decode cX9_search 166 = .ok (.goto (-104), 3) := by decide +kernel
theorem dX9_search_169 : decode cX9_search 169 = .ok (.return_, 1) := by decide +kernel
theorem dX9_findBest_0 : decode cX9_findBest 0 = .ok (.aload_n 0, 1) := by decide +kernel
theorem dX9_findBest_1 : decode cX9_findBest 1 = .ok (.iconst 0, 1) := by decide +kernel
theorem dX9_findBest_2 : decode cX9_findBest 2 = .ok (.putfield 253, 3) := by decide +kernel
theorem dX9_findBest_5 : decode cX9_findBest 5 = .ok (.aload_n 0, 1) := by decide +kernel
theorem dX9_findBest_6 : decode cX9_findBest 6 = .ok (.iconst 0, 1) := by decide +kernel
theorem dX9_findBest_7 : decode cX9_findBest 7 = .ok (.putfield 250, 3) := by decide +kernel
theorem dX9_findBest_10 : decode cX9_findBest 10 = .ok (.aload_n 0, 1) := by decide +kernel
theorem dX9_findBest_11 : decode cX9_findBest 11 = .ok (.iload_n 1, 1) := by decide +kernel
theorem dX9_findBest_12 : decode cX9_findBest 12 = .ok (.invokevirtual 165, 3) := by decide +kernel
theorem dX9_findBest_15 : decode cX9_findBest 15 = .ok (.aload_n 0, 1) := by decide +kernel
theorem dX9_findBest_16 : decode cX9_findBest 16 = .ok (.iconst 0, 1) := by decide +kernel
theorem dX9_findBest_17 : decode cX9_findBest 17 = .ok (.iconst 0, 1) := by decide +kernel
theorem dX9_findBest_18 : decode cX9_findBest 18 = .ok (.iconst (-1), 1) := by decide +kernel
theorem dX9_findBest_19 : decode cX9_findBest 19 = .ok (.invokevirtual 256, 3) := by decide +kernel
theorem dX9_findBest_22 : decode cX9_findBest 22 = .ok (.return_, 1) := by decide +kernel
theorem dX9_bestMinutes_0 : decode cX9_bestMinutes 0 = .ok (.aload_n 0, 1) := by decide +kernel
theorem dX9_bestMinutes_1 : decode cX9_bestMinutes 1 = .ok (.iload_n 1, 1) := by decide +kernel
theorem dX9_bestMinutes_2 : decode cX9_bestMinutes 2 = .ok (.invokevirtual 174, 3) := by decide +kernel
theorem dX9_bestMinutes_5 : decode cX9_bestMinutes 5 = .ok (.ifCond .ne 5, 3) := by decide +kernel
theorem dX9_bestMinutes_8 : decode cX9_bestMinutes 8 = .ok (.iconst (-1), 1) := by decide +kernel
theorem dX9_bestMinutes_9 : decode cX9_bestMinutes 9 = .ok (.ireturn, 1) := by decide +kernel
theorem dX9_bestMinutes_10 : decode cX9_bestMinutes 10 = .ok (.aload_n 0, 1) := by decide +kernel
theorem dX9_bestMinutes_11 : decode cX9_bestMinutes 11 = .ok (.iload_n 1, 1) := by decide +kernel
theorem dX9_bestMinutes_12 : decode cX9_bestMinutes 12 = .ok (.invokevirtual 259, 3) := by decide +kernel
theorem dX9_bestMinutes_15 : decode cX9_bestMinutes 15 = .ok (.aload_n 0, 1) := by decide +kernel
theorem dX9_bestMinutes_16 : decode cX9_bestMinutes 16 = .ok (.getfield 253, 3) := by decide +kernel
theorem dX9_bestMinutes_19 : decode cX9_bestMinutes 19 = .ok (.ifCond .ne 8, 3) := by decide +kernel
theorem dX9_bestMinutes_22 : decode cX9_bestMinutes 22 = .ok (.bipush (-2), 2) := by decide +kernel
theorem dX9_bestMinutes_24 : decode cX9_bestMinutes 24 = .ok (.goto 7, 3) := by decide +kernel
theorem dX9_bestMinutes_27 : decode cX9_bestMinutes 27 = .ok (.aload_n 0, 1) := by decide +kernel
theorem dX9_bestMinutes_28 : decode cX9_bestMinutes 28 = .ok (.getfield 250, 3) := by decide +kernel
theorem dX9_bestMinutes_31 : decode cX9_bestMinutes 31 = .ok (.ireturn, 1) := by decide +kernel
theorem dX9_bestLeg_0 : decode cX9_bestLeg 0 = .ok (.aload_n 0, 1) := by decide +kernel
theorem dX9_bestLeg_1 : decode cX9_bestLeg 1 = .ok (.iload_n 1, 1) := by decide +kernel
theorem dX9_bestLeg_2 : decode cX9_bestLeg 2 = .ok (.invokevirtual 174, 3) := by decide +kernel
theorem dX9_bestLeg_5 : decode cX9_bestLeg 5 = .ok (.ifCond .ne 5, 3) := by decide +kernel
theorem dX9_bestLeg_8 : decode cX9_bestLeg 8 = .ok (.iconst (-1), 1) := by decide +kernel
theorem dX9_bestLeg_9 : decode cX9_bestLeg 9 = .ok (.ireturn, 1) := by decide +kernel
theorem dX9_bestLeg_10 : decode cX9_bestLeg 10 = .ok (.aload_n 0, 1) := by decide +kernel
theorem dX9_bestLeg_11 : decode cX9_bestLeg 11 = .ok (.iload_n 1, 1) := by decide +kernel
theorem dX9_bestLeg_12 : decode cX9_bestLeg 12 = .ok (.invokevirtual 259, 3) := by decide +kernel
theorem dX9_bestLeg_15 : decode cX9_bestLeg 15 = .ok (.aload_n 0, 1) := by decide +kernel
theorem dX9_bestLeg_16 : decode cX9_bestLeg 16 = .ok (.getfield 253, 3) := by decide +kernel
theorem dX9_bestLeg_19 : decode cX9_bestLeg 19 = .ok (.ifCond .ne 8, 3) := by decide +kernel
theorem dX9_bestLeg_22 : decode cX9_bestLeg 22 = .ok (.bipush (-2), 2) := by decide +kernel
theorem dX9_bestLeg_24 : decode cX9_bestLeg 24 = .ok (.goto 40, 3) := by decide +kernel
theorem dX9_bestLeg_27 : decode cX9_bestLeg 27 = .ok (.iload_n 2, 1) := by decide +kernel
theorem dX9_bestLeg_28 : decode cX9_bestLeg 28 = .ok (.iconst (-1), 1) := by decide +kernel
theorem dX9_bestLeg_29 : decode cX9_bestLeg 29 = .ok (.if_icmp .ne 10, 3) := by decide +kernel
theorem dX9_bestLeg_32 : decode cX9_bestLeg 32 = .ok (.aload_n 0, 1) := by decide +kernel
theorem dX9_bestLeg_33 : decode cX9_bestLeg 33 = .ok (.getfield 253, 3) := by decide +kernel
theorem dX9_bestLeg_36 : decode cX9_bestLeg 36 = .ok (.goto 28, 3) := by decide +kernel
theorem dX9_bestLeg_39 : decode cX9_bestLeg 39 = .ok (.iload_n 2, 1) := by decide +kernel
theorem dX9_bestLeg_40 : decode cX9_bestLeg 40 = .ok (.iconst 0, 1) := by decide +kernel
theorem dX9_bestLeg_41 : decode cX9_bestLeg 41 = .ok (.aload_n 0, 1) := by decide +kernel
theorem dX9_bestLeg_42 : decode cX9_bestLeg 42 = .ok (.getfield 253, 3) := by decide +kernel
theorem dX9_bestLeg_45 : decode cX9_bestLeg 45 = .ok (.iconst 1, 1) := by decide +kernel
theorem dX9_bestLeg_46 : decode cX9_bestLeg 46 = .ok (.isub, 1) := by decide +kernel
theorem dX9_bestLeg_47 : decode cX9_bestLeg 47 = .ok (.invokestatic 59, 3) := by decide +kernel
theorem dX9_bestLeg_50 : decode cX9_bestLeg 50 = .ok (.ifCond .eq 12, 3) := by decide +kernel
theorem dX9_bestLeg_53 : decode cX9_bestLeg 53 = .ok (.aload_n 0, 1) := by decide +kernel
theorem dX9_bestLeg_54 : decode cX9_bestLeg 54 = .ok (.getfield 37, 3) := by decide +kernel
theorem dX9_bestLeg_57 : decode cX9_bestLeg 57 = .ok (.iload_n 2, 1) := by decide +kernel
theorem dX9_bestLeg_58 : decode cX9_bestLeg 58 = .ok (.iaload, 1) := by decide +kernel
theorem dX9_bestLeg_59 : decode cX9_bestLeg 59 = .ok (.goto 5, 3) := by decide +kernel
theorem dX9_bestLeg_62 : decode cX9_bestLeg 62 = .ok (.bipush (-2), 2) := by decide +kernel
theorem dX9_bestLeg_64 : decode cX9_bestLeg 64 = .ok (.ireturn, 1) := by decide +kernel
theorem dX9_takeBest_0 : decode cX9_takeBest 0 = .ok (.aload_n 0, 1) := by decide +kernel
theorem dX9_takeBest_1 : decode cX9_takeBest 1 = .ok (.iload_n 1, 1) := by decide +kernel
theorem dX9_takeBest_2 : decode cX9_takeBest 2 = .ok (.invokevirtual 174, 3) := by decide +kernel
theorem dX9_takeBest_5 : decode cX9_takeBest 5 = .ok (.ifCond .ne 5, 3) := by decide +kernel
theorem dX9_takeBest_8 : decode cX9_takeBest 8 = .ok (.iconst (-1), 1) := by decide +kernel
theorem dX9_takeBest_9 : decode cX9_takeBest 9 = .ok (.ireturn, 1) := by decide +kernel
theorem dX9_takeBest_10 : decode cX9_takeBest 10 = .ok (.aload_n 0, 1) := by decide +kernel
theorem dX9_takeBest_11 : decode cX9_takeBest 11 = .ok (.iload_n 1, 1) := by decide +kernel
theorem dX9_takeBest_12 : decode cX9_takeBest 12 = .ok (.invokevirtual 259, 3) := by decide +kernel
theorem dX9_takeBest_15 : decode cX9_takeBest 15 = .ok (.aload_n 0, 1) := by decide +kernel
theorem dX9_takeBest_16 : decode cX9_takeBest 16 = .ok (.getfield 253, 3) := by decide +kernel
theorem dX9_takeBest_19 : decode cX9_takeBest 19 = .ok (.ifCond .ne 6, 3) := by decide +kernel
theorem dX9_takeBest_22 : decode cX9_takeBest 22 = .ok (.bipush (-2), 2) := by decide +kernel
theorem dX9_takeBest_24 : decode cX9_takeBest 24 = .ok (.ireturn, 1) := by decide +kernel
theorem dX9_takeBest_25 : decode cX9_takeBest 25 = .ok (.aload_n 0, 1) := by decide +kernel
theorem dX9_takeBest_26 : decode cX9_takeBest 26 = .ok (.invokevirtual 88, 3) := by decide +kernel
theorem dX9_takeBest_29 : decode cX9_takeBest 29 = .ok (.iconst 0, 1) := by decide +kernel
theorem dX9_takeBest_30 : decode cX9_takeBest 30 = .ok (.istore_n 2, 1) := by decide +kernel
theorem dX9_takeBest_31 : decode cX9_takeBest 31 = .ok (.iload_n 2, 1) := by decide +kernel
theorem dX9_takeBest_32 : decode cX9_takeBest 32 = .ok (.aload_n 0, 1) := by decide +kernel
theorem dX9_takeBest_33 : decode cX9_takeBest 33 = .ok (.getfield 253, 3) := by decide +kernel
theorem dX9_takeBest_36 : decode cX9_takeBest 36 = .ok (.if_icmp .ge 22, 3) := by decide +kernel
theorem dX9_takeBest_39 : decode cX9_takeBest 39 = .ok (.aload_n 0, 1) := by decide +kernel
theorem dX9_takeBest_40 : decode cX9_takeBest 40 = .ok (.iload_n 1, 1) := by decide +kernel
theorem dX9_takeBest_41 : decode cX9_takeBest 41 = .ok (.aload_n 0, 1) := by decide +kernel
theorem dX9_takeBest_42 : decode cX9_takeBest 42 = .ok (.getfield 37, 3) := by decide +kernel
theorem dX9_takeBest_45 : decode cX9_takeBest 45 = .ok (.iload_n 2, 1) := by decide +kernel
theorem dX9_takeBest_46 : decode cX9_takeBest 46 = .ok (.iaload, 1) := by decide +kernel
theorem dX9_takeBest_47 : decode cX9_takeBest 47 = .ok (.iconst 1, 1) := by decide +kernel
theorem dX9_takeBest_48 : decode cX9_takeBest 48 = .ok (.invokevirtual 180, 3) := by decide +kernel
theorem dX9_takeBest_51 : decode cX9_takeBest 51 = .ok (.istore_n 3, 1) := by decide +kernel
theorem dX9_takeBest_52 : decode cX9_takeBest 52 = .ok (.iinc 2 1, 3) := by decide +kernel
theorem dX9_takeBest_55 : decode cX9_takeBest 55 = .ok (.goto (-24), 3) := by decide +kernel
theorem dX9_takeBest_58 : decode cX9_takeBest 58 = .ok (.aload_n 0, 1) := by decide +kernel
theorem dX9_takeBest_59 : decode cX9_takeBest 59 = .ok (.getfield 253, 3) := by decide +kernel
theorem dX9_takeBest_62 : decode cX9_takeBest 62 = .ok (.ireturn, 1) := by decide +kernel
theorem dX9_write_0 : decode cX9_write 0 = .ok (.aload_n 0, 1) := by decide +kernel
theorem dX9_write_1 : decode cX9_write 1 = .ok (.getfield 40, 3) := by decide +kernel
theorem dX9_write_4 : decode cX9_write 4 = .ok (.aload_n 0, 1) := by decide +kernel
theorem dX9_write_5 : decode cX9_write 5 = .ok (.getfield 262, 3) := by decide +kernel
theorem dX9_write_8 : decode cX9_write 8 = .ok (.iload_n 1, 1) := by decide +kernel
theorem dX9_write_9 : decode cX9_write 9 = .ok (.i2c, 1) := by decide +kernel
theorem dX9_write_10 : decode cX9_write 10 = .ok (.castore, 1) := by decide +kernel
theorem dX9_write_11 : decode cX9_write 11 = .ok (.aload_n 0, 1) := by decide +kernel
theorem dX9_write_12 : decode cX9_write 12 = .ok (.dup, 1) := by decide +kernel
theorem dX9_write_13 : decode cX9_write 13 = .ok (.getfield 262, 3) := by decide +kernel
theorem dX9_write_16 : decode cX9_write 16 = .ok (.iconst 1, 1) := by decide +kernel
theorem dX9_write_17 : decode cX9_write 17 = .ok (.iadd, 1) := by decide +kernel
theorem dX9_write_18 : decode cX9_write 18 = .ok (.putfield 262, 3) := by decide +kernel
theorem dX9_write_21 : decode cX9_write 21 = .ok (.return_, 1) := by decide +kernel
theorem dX9_writeTwo_0 : decode cX9_writeTwo 0 = .ok (.aload_n 0, 1) := by decide +kernel
theorem dX9_writeTwo_1 : decode cX9_writeTwo 1 = .ok (.bipush 48, 2) := by decide +kernel
theorem dX9_writeTwo_3 : decode cX9_writeTwo 3 = .ok (.iload_n 1, 1) := by decide +kernel
theorem dX9_writeTwo_4 : decode cX9_writeTwo 4 = .ok (.bipush 10, 2) := by decide +kernel
theorem dX9_writeTwo_6 : decode cX9_writeTwo 6 = .ok (.idiv, 1) := by decide +kernel
theorem dX9_writeTwo_7 : decode cX9_writeTwo 7 = .ok (.iadd, 1) := by decide +kernel
theorem dX9_writeTwo_8 : decode cX9_writeTwo 8 = .ok (.invokevirtual 265, 3) := by decide +kernel
theorem dX9_writeTwo_11 : decode cX9_writeTwo 11 = .ok (.aload_n 0, 1) := by decide +kernel
theorem dX9_writeTwo_12 : decode cX9_writeTwo 12 = .ok (.bipush 48, 2) := by decide +kernel
theorem dX9_writeTwo_14 : decode cX9_writeTwo 14 = .ok (.iload_n 1, 1) := by decide +kernel
theorem dX9_writeTwo_15 : decode cX9_writeTwo 15 = .ok (.bipush 10, 2) := by decide +kernel
theorem dX9_writeTwo_17 : decode cX9_writeTwo 17 = .ok (.irem, 1) := by decide +kernel
theorem dX9_writeTwo_18 : decode cX9_writeTwo 18 = .ok (.iadd, 1) := by decide +kernel
theorem dX9_writeTwo_19 : decode cX9_writeTwo 19 = .ok (.invokevirtual 265, 3) := by decide +kernel
theorem dX9_writeTwo_22 : decode cX9_writeTwo 22 = .ok (.return_, 1) := by decide +kernel
theorem dX9_writeTime_0 : decode cX9_writeTime 0 = .ok (.aload_n 0, 1) := by decide +kernel
theorem dX9_writeTime_1 : decode cX9_writeTime 1 = .ok (.bipush 100, 2) := by decide +kernel
theorem dX9_writeTime_3 : decode cX9_writeTime 3 = .ok (.invokevirtual 265, 3) := by decide +kernel
theorem dX9_writeTime_6 : decode cX9_writeTime 6 = .ok (.aload_n 0, 1) := by decide +kernel
theorem dX9_writeTime_7 : decode cX9_writeTime 7 = .ok (.bipush 48, 2) := by decide +kernel
theorem dX9_writeTime_9 : decode cX9_writeTime 9 = .ok (.iload_n 1, 1) := by decide +kernel
theorem dX9_writeTime_10 : decode cX9_writeTime 10 = .ok (.sipush 1440, 3) := by decide +kernel
theorem dX9_writeTime_13 : decode cX9_writeTime 13 = .ok (.idiv, 1) := by decide +kernel
theorem dX9_writeTime_14 : decode cX9_writeTime 14 = .ok (.iadd, 1) := by decide +kernel
theorem dX9_writeTime_15 : decode cX9_writeTime 15 = .ok (.invokevirtual 265, 3) := by decide +kernel
theorem dX9_writeTime_18 : decode cX9_writeTime 18 = .ok (.aload_n 0, 1) := by decide +kernel
theorem dX9_writeTime_19 : decode cX9_writeTime 19 = .ok (.bipush 104, 2) := by decide +kernel
theorem dX9_writeTime_21 : decode cX9_writeTime 21 = .ok (.invokevirtual 265, 3) := by decide +kernel
theorem dX9_writeTime_24 : decode cX9_writeTime 24 = .ok (.aload_n 0, 1) := by decide +kernel
theorem dX9_writeTime_25 : decode cX9_writeTime 25 = .ok (.iload_n 1, 1) := by decide +kernel
theorem dX9_writeTime_26 : decode cX9_writeTime 26 = .ok (.sipush 1440, 3) := by decide +kernel
theorem dX9_writeTime_29 : decode cX9_writeTime 29 = .ok (.irem, 1) := by decide +kernel
theorem dX9_writeTime_30 : decode cX9_writeTime 30 = .ok (.bipush 60, 2) := by decide +kernel
theorem dX9_writeTime_32 : decode cX9_writeTime 32 = .ok (.idiv, 1) := by decide +kernel
theorem dX9_writeTime_33 : decode cX9_writeTime 33 = .ok (.invokevirtual 268, 3) := by decide +kernel
theorem dX9_writeTime_36 : decode cX9_writeTime 36 = .ok (.aload_n 0, 1) := by decide +kernel
theorem dX9_writeTime_37 : decode cX9_writeTime 37 = .ok (.iload_n 1, 1) := by decide +kernel
theorem dX9_writeTime_38 : decode cX9_writeTime 38 = .ok (.bipush 60, 2) := by decide +kernel
theorem dX9_writeTime_40 : decode cX9_writeTime 40 = .ok (.irem, 1) := by decide +kernel
theorem dX9_writeTime_41 : decode cX9_writeTime 41 = .ok (.invokevirtual 268, 3) := by decide +kernel
theorem dX9_writeTime_44 : decode cX9_writeTime 44 = .ok (.return_, 1) := by decide +kernel
theorem dX9_writeItem_0 : decode cX9_writeItem 0 = .ok (.aload_n 0, 1) := by decide +kernel
theorem dX9_writeItem_1 : decode cX9_writeItem 1 = .ok (.iload_n 1, 1) := by decide +kernel
theorem dX9_writeItem_2 : decode cX9_writeItem 2 = .ok (.invokevirtual 120, 3) := by decide +kernel
theorem dX9_writeItem_5 : decode cX9_writeItem 5 = .ok (.istore_n 2, 1) := by decide +kernel
theorem dX9_writeItem_6 : decode cX9_writeItem 6 = .ok (.aload_n 0, 1) := by decide +kernel
theorem dX9_writeItem_7 : decode cX9_writeItem 7 = .ok (.bipush 48, 2) := by decide +kernel
theorem dX9_writeItem_9 : decode cX9_writeItem 9 = .ok (.aload_n 0, 1) := by decide +kernel
theorem dX9_writeItem_10 : decode cX9_writeItem 10 = .ok (.iload_n 2, 1) := by decide +kernel
theorem dX9_writeItem_11 : decode cX9_writeItem 11 = .ok (.iconst 0, 1) := by decide +kernel
theorem dX9_writeItem_12 : decode cX9_writeItem 12 = .ok (.invokevirtual 63, 3) := by decide +kernel
theorem dX9_writeItem_15 : decode cX9_writeItem 15 = .ok (.iadd, 1) := by decide +kernel
theorem dX9_writeItem_16 : decode cX9_writeItem 16 = .ok (.invokevirtual 265, 3) := by decide +kernel
theorem dX9_writeItem_19 : decode cX9_writeItem 19 = .ok (.aload_n 0, 1) := by decide +kernel
theorem dX9_writeItem_20 : decode cX9_writeItem 20 = .ok (.bipush 62, 2) := by decide +kernel
theorem dX9_writeItem_22 : decode cX9_writeItem 22 = .ok (.invokevirtual 265, 3) := by decide +kernel
theorem dX9_writeItem_25 : decode cX9_writeItem 25 = .ok (.aload_n 0, 1) := by decide +kernel
theorem dX9_writeItem_26 : decode cX9_writeItem 26 = .ok (.bipush 48, 2) := by decide +kernel
theorem dX9_writeItem_28 : decode cX9_writeItem 28 = .ok (.aload_n 0, 1) := by decide +kernel
theorem dX9_writeItem_29 : decode cX9_writeItem 29 = .ok (.iload_n 2, 1) := by decide +kernel
theorem dX9_writeItem_30 : decode cX9_writeItem 30 = .ok (.iconst 1, 1) := by decide +kernel
theorem dX9_writeItem_31 : decode cX9_writeItem 31 = .ok (.invokevirtual 63, 3) := by decide +kernel
theorem dX9_writeItem_34 : decode cX9_writeItem 34 = .ok (.iadd, 1) := by decide +kernel
theorem dX9_writeItem_35 : decode cX9_writeItem 35 = .ok (.invokevirtual 265, 3) := by decide +kernel
theorem dX9_writeItem_38 : decode cX9_writeItem 38 = .ok (.aload_n 0, 1) := by decide +kernel
theorem dX9_writeItem_39 : decode cX9_writeItem 39 = .ok (.bipush 32, 2) := by decide +kernel
theorem dX9_writeItem_41 : decode cX9_writeItem 41 = .ok (.invokevirtual 265, 3) := by decide +kernel
theorem dX9_writeItem_44 : decode cX9_writeItem 44 = .ok (.aload_n 0, 1) := by decide +kernel
theorem dX9_writeItem_45 : decode cX9_writeItem 45 = .ok (.aload_n 0, 1) := by decide +kernel
theorem dX9_writeItem_46 : decode cX9_writeItem 46 = .ok (.iload_n 2, 1) := by decide +kernel
theorem dX9_writeItem_47 : decode cX9_writeItem 47 = .ok (.iconst 2, 1) := by decide +kernel
theorem dX9_writeItem_48 : decode cX9_writeItem 48 = .ok (.invokevirtual 63, 3) := by decide +kernel
theorem dX9_writeItem_51 : decode cX9_writeItem 51 = .ok (.invokevirtual 271, 3) := by decide +kernel
theorem dX9_writeItem_54 : decode cX9_writeItem 54 = .ok (.aload_n 0, 1) := by decide +kernel
theorem dX9_writeItem_55 : decode cX9_writeItem 55 = .ok (.bipush 45, 2) := by decide +kernel
theorem dX9_writeItem_57 : decode cX9_writeItem 57 = .ok (.invokevirtual 265, 3) := by decide +kernel
theorem dX9_writeItem_60 : decode cX9_writeItem 60 = .ok (.aload_n 0, 1) := by decide +kernel
theorem dX9_writeItem_61 : decode cX9_writeItem 61 = .ok (.aload_n 0, 1) := by decide +kernel
theorem dX9_writeItem_62 : decode cX9_writeItem 62 = .ok (.iload_n 2, 1) := by decide +kernel
theorem dX9_writeItem_63 : decode cX9_writeItem 63 = .ok (.iconst 3, 1) := by decide +kernel
theorem dX9_writeItem_64 : decode cX9_writeItem 64 = .ok (.invokevirtual 63, 3) := by decide +kernel
theorem dX9_writeItem_67 : decode cX9_writeItem 67 = .ok (.invokevirtual 271, 3) := by decide +kernel
theorem dX9_writeItem_70 : decode cX9_writeItem 70 = .ok (.aload_n 0, 1) := by decide +kernel
theorem dX9_writeItem_71 : decode cX9_writeItem 71 = .ok (.iload_n 1, 1) := by decide +kernel
theorem dX9_writeItem_72 : decode cX9_writeItem 72 = .ok (.invokevirtual 132, 3) := by decide +kernel
theorem dX9_writeItem_75 : decode cX9_writeItem 75 = .ok (.ifCond .eq 9, 3) := by decide +kernel
theorem dX9_writeItem_78 : decode cX9_writeItem 78 = .ok (.ldc_w 274, 3) := by decide +kernel
theorem dX9_writeItem_81 : decode cX9_writeItem 81 = .ok (.goto 6, 3) := by decide +kernel
theorem dX9_writeItem_84 : decode cX9_writeItem 84 = .ok (.ldc_w 276, 3) := by decide +kernel
theorem dX9_writeItem_87 : decode cX9_writeItem 87 = .ok (.astore_n 3, 1) := by decide +kernel
theorem dX9_writeItem_88 : decode cX9_writeItem 88 = .ok (.iconst 0, 1) := by decide +kernel
theorem dX9_writeItem_89 : decode cX9_writeItem 89 = .ok (.istore 4, 2) := by decide +kernel
theorem dX9_writeItem_91 : decode cX9_writeItem 91 = .ok (.iload 4, 2) := by decide +kernel
theorem dX9_writeItem_93 : decode cX9_writeItem 93 = .ok (.aload_n 3, 1) := by decide +kernel
theorem dX9_writeItem_94 : decode cX9_writeItem 94 = .ok (.invokevirtual 278, 3) := by decide +kernel
theorem dX9_writeItem_97 : decode cX9_writeItem 97 = .ok (.if_icmp .ge 19, 3) := by decide +kernel
theorem dX9_writeItem_100 : decode cX9_writeItem 100 = .ok (.aload_n 0, 1) := by decide +kernel
theorem dX9_writeItem_101 : decode cX9_writeItem 101 = .ok (.aload_n 3, 1) := by decide +kernel
theorem dX9_writeItem_102 : decode cX9_writeItem 102 = .ok (.iload 4, 2) := by decide +kernel
theorem dX9_writeItem_104 : decode cX9_writeItem 104 = .ok (.invokevirtual 283, 3) := by decide +kernel
theorem dX9_writeItem_107 : decode cX9_writeItem 107 = .ok (.invokevirtual 265, 3) := by decide +kernel
theorem dX9_writeItem_110 : decode cX9_writeItem 110 = .ok (.iinc 4 1, 3) := by decide +kernel
theorem dX9_writeItem_113 : decode cX9_writeItem 113 = .ok (.goto (-22), 3) := by decide +kernel
theorem dX9_writeItem_116 : decode cX9_writeItem 116 = .ok (.return_, 1) := by decide +kernel
theorem dX9_letter_0 : decode cX9_letter 0 = .ok (.aload_n 0, 1) := by decide +kernel
theorem dX9_letter_1 : decode cX9_letter 1 = .ok (.iload_n 1, 1) := by decide +kernel
theorem dX9_letter_2 : decode cX9_letter 2 = .ok (.invokevirtual 174, 3) := by decide +kernel
theorem dX9_letter_5 : decode cX9_letter 5 = .ok (.ifCond .ne 5, 3) := by decide +kernel
theorem dX9_letter_8 : decode cX9_letter 8 = .ok (.iconst (-1), 1) := by decide +kernel
theorem dX9_letter_9 : decode cX9_letter 9 = .ok (.ireturn, 1) := by decide +kernel
theorem dX9_letter_10 : decode cX9_letter 10 = .ok (.aload_n 0, 1) := by decide +kernel
theorem dX9_letter_11 : decode cX9_letter 11 = .ok (.iload_n 1, 1) := by decide +kernel
theorem dX9_letter_12 : decode cX9_letter 12 = .ok (.invokevirtual 165, 3) := by decide +kernel
theorem dX9_letter_15 : decode cX9_letter 15 = .ok (.aload_n 0, 1) := by decide +kernel
theorem dX9_letter_16 : decode cX9_letter 16 = .ok (.iconst 0, 1) := by decide +kernel
theorem dX9_letter_17 : decode cX9_letter 17 = .ok (.putfield 262, 3) := by decide +kernel
theorem dX9_letter_20 : decode cX9_letter 20 = .ok (.iconst 0, 1) := by decide +kernel
theorem dX9_letter_21 : decode cX9_letter 21 = .ok (.istore_n 3, 1) := by decide +kernel
theorem dX9_letter_22 : decode cX9_letter 22 = .ok (.iload_n 3, 1) := by decide +kernel
theorem dX9_letter_23 : decode cX9_letter 23 = .ok (.aload_n 0, 1) := by decide +kernel
theorem dX9_letter_24 : decode cX9_letter 24 = .ok (.getfield 114, 3) := by decide +kernel
theorem dX9_letter_27 : decode cX9_letter 27 = .ok (.if_icmp .ge 14, 3) := by decide +kernel
theorem dX9_letter_30 : decode cX9_letter 30 = .ok (.aload_n 0, 1) := by decide +kernel
theorem dX9_letter_31 : decode cX9_letter 31 = .ok (.iload_n 3, 1) := by decide +kernel
theorem dX9_letter_32 : decode cX9_letter 32 = .ok (.invokevirtual 287, 3) := by decide +kernel
theorem dX9_letter_35 : decode cX9_letter 35 = .ok (.iinc 3 1, 3) := by decide +kernel
theorem dX9_letter_38 : decode cX9_letter 38 = .ok (.goto (-16), 3) := by decide +kernel
theorem dX9_letter_41 : decode cX9_letter 41 = .ok (.iload_n 2, 1) := by decide +kernel
theorem dX9_letter_42 : decode cX9_letter 42 = .ok (.iconst (-1), 1) := by decide +kernel
theorem dX9_letter_43 : decode cX9_letter 43 = .ok (.if_icmp .ne 10, 3) := by decide +kernel
theorem dX9_letter_46 : decode cX9_letter 46 = .ok (.aload_n 0, 1) := by decide +kernel
theorem dX9_letter_47 : decode cX9_letter 47 = .ok (.getfield 262, 3) := by decide +kernel
theorem dX9_letter_50 : decode cX9_letter 50 = .ok (.goto 28, 3) := by decide +kernel
theorem dX9_letter_53 : decode cX9_letter 53 = .ok (.iload_n 2, 1) := by decide +kernel
theorem dX9_letter_54 : decode cX9_letter 54 = .ok (.iconst 0, 1) := by decide +kernel
theorem dX9_letter_55 : decode cX9_letter 55 = .ok (.aload_n 0, 1) := by decide +kernel
theorem dX9_letter_56 : decode cX9_letter 56 = .ok (.getfield 262, 3) := by decide +kernel
theorem dX9_letter_59 : decode cX9_letter 59 = .ok (.iconst 1, 1) := by decide +kernel
theorem dX9_letter_60 : decode cX9_letter 60 = .ok (.isub, 1) := by decide +kernel
theorem dX9_letter_61 : decode cX9_letter 61 = .ok (.invokestatic 59, 3) := by decide +kernel
theorem dX9_letter_64 : decode cX9_letter 64 = .ok (.ifCond .eq 12, 3) := by decide +kernel
theorem dX9_letter_67 : decode cX9_letter 67 = .ok (.aload_n 0, 1) := by decide +kernel
theorem dX9_letter_68 : decode cX9_letter 68 = .ok (.getfield 40, 3) := by decide +kernel
theorem dX9_letter_71 : decode cX9_letter 71 = .ok (.iload_n 2, 1) := by decide +kernel
theorem dX9_letter_72 : decode cX9_letter 72 = .ok (.caload, 1) := by decide +kernel
theorem dX9_letter_73 : decode cX9_letter 73 = .ok (.goto 5, 3) := by decide +kernel
theorem dX9_letter_76 : decode cX9_letter 76 = .ok (.bipush (-2), 2) := by decide +kernel
theorem dX9_letter_78 : decode cX9_letter 78 = .ok (.ireturn, 1) := by decide +kernel
theorem dX9_feed_0 : decode cX9_feed 0 = .ok (.iload_n 1, 1) := by decide +kernel
theorem dX9_feed_1 : decode cX9_feed 1 = .ok (.bipush 32, 2) := by decide +kernel
theorem dX9_feed_3 : decode cX9_feed 3 = .ok (.bipush 126, 2) := by decide +kernel
theorem dX9_feed_5 : decode cX9_feed 5 = .ok (.invokestatic 59, 3) := by decide +kernel
theorem dX9_feed_8 : decode cX9_feed 8 = .ok (.ifCond .ne 5, 3) := by decide +kernel
theorem dX9_feed_11 : decode cX9_feed 11 = .ok (.iconst (-1), 1) := by decide +kernel
theorem dX9_feed_12 : decode cX9_feed 12 = .ok (.ireturn, 1) := by decide +kernel
theorem dX9_feed_13 : decode cX9_feed 13 = .ok (.aload_n 0, 1) := by decide +kernel
theorem dX9_feed_14 : decode cX9_feed 14 = .ok (.getfield 290, 3) := by decide +kernel
theorem dX9_feed_17 : decode cX9_feed 17 = .ok (.bipush 60, 2) := by decide +kernel
theorem dX9_feed_19 : decode cX9_feed 19 = .ok (.if_icmp .ne 6, 3) := by decide +kernel
theorem dX9_feed_22 : decode cX9_feed 22 = .ok (.bipush (-3), 2) := by decide +kernel
theorem dX9_feed_24 : decode cX9_feed 24 = .ok (.ireturn, 1) := by decide +kernel
theorem dX9_feed_25 : decode cX9_feed 25 = .ok (.aload_n 0, 1) := by decide +kernel
theorem dX9_feed_26 : decode cX9_feed 26 = .ok (.getfield 44, 3) := by decide +kernel
theorem dX9_feed_29 : decode cX9_feed 29 = .ok (.aload_n 0, 1) := by decide +kernel
theorem dX9_feed_30 : decode cX9_feed 30 = .ok (.getfield 290, 3) := by decide +kernel
theorem dX9_feed_33 : decode cX9_feed 33 = .ok (.iload_n 1, 1) := by decide +kernel
theorem dX9_feed_34 : decode cX9_feed 34 = .ok (.i2c, 1) := by decide +kernel
theorem dX9_feed_35 : decode cX9_feed 35 = .ok (.castore, 1) := by decide +kernel
theorem dX9_feed_36 : decode cX9_feed 36 = .ok (.aload_n 0, 1) := by decide +kernel
theorem dX9_feed_37 : decode cX9_feed 37 = .ok (.dup, 1) := by decide +kernel
theorem dX9_feed_38 : decode cX9_feed 38 = .ok (.getfield 290, 3) := by decide +kernel
theorem dX9_feed_41 : decode cX9_feed 41 = .ok (.iconst 1, 1) := by decide +kernel
theorem dX9_feed_42 : decode cX9_feed 42 = .ok (.iadd, 1) := by decide +kernel
theorem dX9_feed_43 : decode cX9_feed 43 = .ok (.putfield 290, 3) := by decide +kernel
theorem dX9_feed_46 : decode cX9_feed 46 = .ok (.aload_n 0, 1) := by decide +kernel
theorem dX9_feed_47 : decode cX9_feed 47 = .ok (.getfield 290, 3) := by decide +kernel
theorem dX9_feed_50 : decode cX9_feed 50 = .ok (.ireturn, 1) := by decide +kernel
theorem dX9_here_0 : decode cX9_here 0 = .ok (.aload_n 0, 1) := by decide +kernel
theorem dX9_here_1 : decode cX9_here 1 = .ok (.getfield 292, 3) := by decide +kernel
theorem dX9_here_4 : decode cX9_here 4 = .ok (.aload_n 0, 1) := by decide +kernel
theorem dX9_here_5 : decode cX9_here 5 = .ok (.getfield 290, 3) := by decide +kernel
theorem dX9_here_8 : decode cX9_here 8 = .ok (.if_icmp .ge 15, 3) := by decide +kernel
theorem dX9_here_11 : decode cX9_here 11 = .ok (.aload_n 0, 1) := by decide +kernel
theorem dX9_here_12 : decode cX9_here 12 = .ok (.getfield 44, 3) := by decide +kernel
theorem dX9_here_15 : decode cX9_here 15 = .ok (.aload_n 0, 1) := by decide +kernel
theorem dX9_here_16 : decode cX9_here 16 = .ok (.getfield 292, 3) := by decide +kernel
theorem dX9_here_19 : decode cX9_here 19 = .ok (.caload, 1) := by decide +kernel
theorem dX9_here_20 : decode cX9_here 20 = .ok (.goto 4, 3) := by decide +kernel
theorem dX9_here_23 : decode cX9_here 23 = .ok (.iconst 0, 1) := by decide +kernel
theorem dX9_here_24 : decode cX9_here 24 = .ok (.ireturn, 1) := by decide +kernel
theorem dX9_isWord_0 : decode cX9_isWord 0 = .ok (.aload_n 0, 1) := by decide +kernel
theorem dX9_isWord_1 : decode cX9_isWord 1 = .ok (.getfield 292, 3) := by decide +kernel
theorem dX9_isWord_4 : decode cX9_isWord 4 = .ok (.iload_n 1, 1) := by decide +kernel
theorem dX9_isWord_5 : decode cX9_isWord 5 = .ok (.isub, 1) := by decide +kernel
theorem dX9_isWord_6 : decode cX9_isWord 6 = .ok (.aload_n 2, 1) := by decide +kernel
theorem dX9_isWord_7 : decode cX9_isWord 7 = .ok (.invokevirtual 278, 3) := by decide +kernel
theorem dX9_isWord_10 : decode cX9_isWord 10 = .ok (.if_icmp .ne 7, 3) := by decide +kernel
theorem dX9_isWord_13 : decode cX9_isWord 13 = .ok (.iconst 1, 1) := by decide +kernel
theorem dX9_isWord_14 : decode cX9_isWord 14 = .ok (.goto 4, 3) := by decide +kernel
theorem dX9_isWord_17 : decode cX9_isWord 17 = .ok (.iconst 0, 1) := by decide +kernel
theorem dX9_isWord_18 : decode cX9_isWord 18 = .ok (.istore_n 3, 1) := by decide +kernel
theorem dX9_isWord_19 : decode cX9_isWord 19 = .ok (.iconst 0, 1) := by decide +kernel
theorem dX9_isWord_20 : decode cX9_isWord 20 = .ok (.istore 4, 2) := by decide +kernel
theorem dX9_isWord_22 : decode cX9_isWord 22 = .ok (.iload 4, 2) := by decide +kernel
theorem dX9_isWord_24 : decode cX9_isWord 24 = .ok (.aload_n 2, 1) := by decide +kernel
theorem dX9_isWord_25 : decode cX9_isWord 25 = .ok (.invokevirtual 278, 3) := by decide +kernel
theorem dX9_isWord_28 : decode cX9_isWord 28 = .ok (.if_icmp .ge 37, 3) := by decide +kernel
theorem dX9_isWord_31 : decode cX9_isWord 31 = .ok (.iload_n 3, 1) := by decide +kernel
theorem dX9_isWord_32 : decode cX9_isWord 32 = .ok (.ifCond .eq 33, 3) := by decide +kernel
theorem dX9_isWord_35 : decode cX9_isWord 35 = .ok (.aload_n 0, 1) := by decide +kernel
theorem dX9_isWord_36 : decode cX9_isWord 36 = .ok (.getfield 44, 3) := by decide +kernel
theorem dX9_isWord_39 : decode cX9_isWord 39 = .ok (.iload_n 1, 1) := by decide +kernel
theorem dX9_isWord_40 : decode cX9_isWord 40 = .ok (.iload 4, 2) := by decide +kernel
theorem dX9_isWord_42 : decode cX9_isWord 42 = .ok (.iadd, 1) := by decide +kernel
theorem dX9_isWord_43 : decode cX9_isWord 43 = .ok (.caload, 1) := by decide +kernel
theorem dX9_isWord_44 : decode cX9_isWord 44 = .ok (.aload_n 2, 1) := by decide +kernel
theorem dX9_isWord_45 : decode cX9_isWord 45 = .ok (.iload 4, 2) := by decide +kernel
theorem dX9_isWord_47 : decode cX9_isWord 47 = .ok (.invokevirtual 283, 3) := by decide +kernel
theorem dX9_isWord_50 : decode cX9_isWord 50 = .ok (.if_icmp .ne 7, 3) := by decide +kernel
theorem dX9_isWord_53 : decode cX9_isWord 53 = .ok (.iconst 1, 1) := by decide +kernel
theorem dX9_isWord_54 : decode cX9_isWord 54 = .ok (.goto 4, 3) := by decide +kernel
theorem dX9_isWord_57 : decode cX9_isWord 57 = .ok (.iconst 0, 1) := by decide +kernel
theorem dX9_isWord_58 : decode cX9_isWord 58 = .ok (.istore_n 3, 1) := by decide +kernel
theorem dX9_isWord_59 : decode cX9_isWord 59 = .ok (.iinc 4 1, 3) := by decide +kernel
theorem dX9_isWord_62 : decode cX9_isWord 62 = .ok (.goto (-40), 3) := by decide +kernel
theorem dX9_isWord_65 : decode cX9_isWord 65 = .ok (.iload_n 3, 1) := by decide +kernel
theorem dX9_isWord_66 : decode cX9_isWord 66 = .ok (.ireturn, 1) := by decide +kernel
theorem dX9_wordOf_0 : decode cX9_wordOf 0 = .ok (.bipush 10, 2) := by decide +kernel
theorem dX9_wordOf_2 : decode cX9_wordOf 2 = .ok (.anewarray 279, 3) := by decide +kernel
theorem dX9_wordOf_5 : decode cX9_wordOf 5 = .ok (.dup, 1) := by decide +kernel
theorem dX9_wordOf_6 : decode cX9_wordOf 6 = .ok (.iconst 0, 1) := by decide +kernel
theorem dX9_wordOf_7 : decode cX9_wordOf 7 = .ok (.ldc_w 295, 3) := by decide +kernel
theorem dX9_wordOf_10 : decode cX9_wordOf 10 = .ok (.aastore, 1) := by decide +kernel
theorem dX9_wordOf_11 : decode cX9_wordOf 11 = .ok (.dup, 1) := by decide +kernel
theorem dX9_wordOf_12 : decode cX9_wordOf 12 = .ok (.iconst 1, 1) := by decide +kernel
theorem dX9_wordOf_13 : decode cX9_wordOf 13 = .ok (.ldc_w 297, 3) := by decide +kernel
theorem dX9_wordOf_16 : decode cX9_wordOf 16 = .ok (.aastore, 1) := by decide +kernel
theorem dX9_wordOf_17 : decode cX9_wordOf 17 = .ok (.dup, 1) := by decide +kernel
theorem dX9_wordOf_18 : decode cX9_wordOf 18 = .ok (.iconst 2, 1) := by decide +kernel
theorem dX9_wordOf_19 : decode cX9_wordOf 19 = .ok (.ldc_w 299, 3) := by decide +kernel
theorem dX9_wordOf_22 : decode cX9_wordOf 22 = .ok (.aastore, 1) := by decide +kernel
theorem dX9_wordOf_23 : decode cX9_wordOf 23 = .ok (.dup, 1) := by decide +kernel
theorem dX9_wordOf_24 : decode cX9_wordOf 24 = .ok (.iconst 3, 1) := by decide +kernel
theorem dX9_wordOf_25 : decode cX9_wordOf 25 = .ok (.ldc_w 301, 3) := by decide +kernel
theorem dX9_wordOf_28 : decode cX9_wordOf 28 = .ok (.aastore, 1) := by decide +kernel
theorem dX9_wordOf_29 : decode cX9_wordOf 29 = .ok (.dup, 1) := by decide +kernel
theorem dX9_wordOf_30 : decode cX9_wordOf 30 = .ok (.iconst 4, 1) := by decide +kernel
theorem dX9_wordOf_31 : decode cX9_wordOf 31 = .ok (.ldc_w 303, 3) := by decide +kernel
theorem dX9_wordOf_34 : decode cX9_wordOf 34 = .ok (.aastore, 1) := by decide +kernel
theorem dX9_wordOf_35 : decode cX9_wordOf 35 = .ok (.dup, 1) := by decide +kernel
theorem dX9_wordOf_36 : decode cX9_wordOf 36 = .ok (.iconst 5, 1) := by decide +kernel
theorem dX9_wordOf_37 : decode cX9_wordOf 37 = .ok (.ldc_w 305, 3) := by decide +kernel
theorem dX9_wordOf_40 : decode cX9_wordOf 40 = .ok (.aastore, 1) := by decide +kernel
theorem dX9_wordOf_41 : decode cX9_wordOf 41 = .ok (.dup, 1) := by decide +kernel
theorem dX9_wordOf_42 : decode cX9_wordOf 42 = .ok (.bipush 6, 2) := by decide +kernel
theorem dX9_wordOf_44 : decode cX9_wordOf 44 = .ok (.ldc_w 307, 3) := by decide +kernel
theorem dX9_wordOf_47 : decode cX9_wordOf 47 = .ok (.aastore, 1) := by decide +kernel
theorem dX9_wordOf_48 : decode cX9_wordOf 48 = .ok (.dup, 1) := by decide +kernel
theorem dX9_wordOf_49 : decode cX9_wordOf 49 = .ok (.bipush 7, 2) := by decide +kernel
theorem dX9_wordOf_51 : decode cX9_wordOf 51 = .ok (.ldc_w 309, 3) := by decide +kernel
theorem dX9_wordOf_54 : decode cX9_wordOf 54 = .ok (.aastore, 1) := by decide +kernel
theorem dX9_wordOf_55 : decode cX9_wordOf 55 = .ok (.dup, 1) := by decide +kernel
theorem dX9_wordOf_56 : decode cX9_wordOf 56 = .ok (.bipush 8, 2) := by decide +kernel
theorem dX9_wordOf_58 : decode cX9_wordOf 58 = .ok (.ldc_w 311, 3) := by decide +kernel
theorem dX9_wordOf_61 : decode cX9_wordOf 61 = .ok (.aastore, 1) := by decide +kernel
theorem dX9_wordOf_62 : decode cX9_wordOf 62 = .ok (.dup, 1) := by decide +kernel
theorem dX9_wordOf_63 : decode cX9_wordOf 63 = .ok (.bipush 9, 2) := by decide +kernel
theorem dX9_wordOf_65 : decode cX9_wordOf 65 = .ok (.ldc_w 313, 3) := by decide +kernel
theorem dX9_wordOf_68 : decode cX9_wordOf 68 = .ok (.aastore, 1) := by decide +kernel
theorem dX9_wordOf_69 : decode cX9_wordOf 69 = .ok (.astore_n 2, 1) := by decide +kernel
theorem dX9_wordOf_70 : decode cX9_wordOf 70 = .ok (.iconst (-1), 1) := by decide +kernel
theorem dX9_wordOf_71 : decode cX9_wordOf 71 = .ok (.istore_n 3, 1) := by decide +kernel
theorem dX9_wordOf_72 : decode cX9_wordOf 72 = .ok (.iconst 0, 1) := by decide +kernel
theorem dX9_wordOf_73 : decode cX9_wordOf 73 = .ok (.istore 4, 2) := by decide +kernel
theorem dX9_wordOf_75 : decode cX9_wordOf 75 = .ok (.iload 4, 2) := by decide +kernel
theorem dX9_wordOf_77 : decode cX9_wordOf 77 = .ok (.aload_n 2, 1) := by decide +kernel
theorem dX9_wordOf_78 : decode cX9_wordOf 78 = .ok (.arraylength, 1) := by decide +kernel
theorem dX9_wordOf_79 : decode cX9_wordOf 79 = .ok (.if_icmp .ge 28, 3) := by decide +kernel
theorem dX9_wordOf_82 : decode cX9_wordOf 82 = .ok (.aload_n 0, 1) := by decide +kernel
theorem dX9_wordOf_83 : decode cX9_wordOf 83 = .ok (.iload_n 1, 1) := by decide +kernel
theorem dX9_wordOf_84 : decode cX9_wordOf 84 = .ok (.aload_n 2, 1) := by decide +kernel
theorem dX9_wordOf_85 : decode cX9_wordOf 85 = .ok (.iload 4, 2) := by decide +kernel
theorem dX9_wordOf_87 : decode cX9_wordOf 87 = .ok (.aaload, 1) := by decide +kernel
theorem dX9_wordOf_88 : decode cX9_wordOf 88 = .ok (.invokevirtual 315, 3) := by decide +kernel
theorem dX9_wordOf_91 : decode cX9_wordOf 91 = .ok (.ifCond .eq 8, 3) := by decide +kernel
theorem dX9_wordOf_94 : decode cX9_wordOf 94 = .ok (.iload 4, 2) := by decide +kernel
theorem dX9_wordOf_96 : decode cX9_wordOf 96 = .ok (.goto 4, 3) := by decide +kernel
theorem dX9_wordOf_99 : decode cX9_wordOf 99 = .ok (.iload_n 3, 1) := by decide +kernel
theorem dX9_wordOf_100 : decode cX9_wordOf 100 = .ok (.istore_n 3, 1) := by decide +kernel
theorem dX9_wordOf_101 : decode cX9_wordOf 101 = .ok (.iinc 4 1, 3) := by decide +kernel
theorem dX9_wordOf_104 : decode cX9_wordOf 104 = .ok (.goto (-29), 3) := by decide +kernel
theorem dX9_wordOf_107 : decode cX9_wordOf 107 = .ok (.iload_n 3, 1) := by decide +kernel
theorem dX9_wordOf_108 : decode cX9_wordOf 108 = .ok (.ireturn, 1) := by decide +kernel
theorem dX9_readNumber_0 : decode cX9_readNumber 0 = .ok (.aload_n 0, 1) := by decide +kernel
theorem dX9_readNumber_1 : decode cX9_readNumber 1 = .ok (.invokevirtual 319, 3) := by decide +kernel
theorem dX9_readNumber_4 : decode cX9_readNumber 4 = .ok (.bipush 32, 2) := by decide +kernel
theorem dX9_readNumber_6 : decode cX9_readNumber 6 = .ok (.if_icmp .eq 9, 3) := by decide +kernel
theorem dX9_readNumber_9 : decode cX9_readNumber 9 = .ok (.aload_n 0, 1) := by decide +kernel
theorem dX9_readNumber_10 : decode cX9_readNumber 10 = .ok (.iconst 1, 1) := by decide +kernel
theorem dX9_readNumber_11 : decode cX9_readNumber 11 = .ok (.putfield 322, 3) := by decide +kernel
theorem dX9_readNumber_14 : decode cX9_readNumber 14 = .ok (.return_, 1) := by decide +kernel
theorem dX9_readNumber_15 : decode cX9_readNumber 15 = .ok (.aload_n 0, 1) := by decide +kernel
theorem dX9_readNumber_16 : decode cX9_readNumber 16 = .ok (.dup, 1) := by decide +kernel
theorem dX9_readNumber_17 : decode cX9_readNumber 17 = .ok (.getfield 292, 3) := by decide +kernel
theorem dX9_readNumber_20 : decode cX9_readNumber 20 = .ok (.iconst 1, 1) := by decide +kernel
theorem dX9_readNumber_21 : decode cX9_readNumber 21 = .ok (.iadd, 1) := by decide +kernel
theorem dX9_readNumber_22 : decode cX9_readNumber 22 = .ok (.putfield 292, 3) := by decide +kernel
theorem dX9_readNumber_25 : decode cX9_readNumber 25 = .ok (.iconst 0, 1) := by decide +kernel
theorem dX9_readNumber_26 : decode cX9_readNumber 26 = .ok (.istore_n 2, 1) := by decide +kernel
theorem dX9_readNumber_27 : decode cX9_readNumber 27 = .ok (.aload_n 0, 1) := by decide +kernel
theorem dX9_readNumber_28 : decode cX9_readNumber 28 = .ok (.getfield 47, 3) := by decide +kernel
theorem dX9_readNumber_31 : decode cX9_readNumber 31 = .ok (.iload_n 1, 1) := by decide +kernel
theorem dX9_readNumber_32 : decode cX9_readNumber 32 = .ok (.iconst 0, 1) := by decide +kernel
theorem dX9_readNumber_33 : decode cX9_readNumber 33 = .ok (.iastore, 1) := by decide +kernel
theorem dX9_readNumber_34 : decode cX9_readNumber 34 = .ok (.iload_n 2, 1) := by decide +kernel
theorem dX9_readNumber_35 : decode cX9_readNumber 35 = .ok (.iconst 4, 1) := by decide +kernel
theorem dX9_readNumber_36 : decode cX9_readNumber 36 = .ok (.if_icmp .ge 56, 3) := by decide +kernel
theorem dX9_readNumber_39 : decode cX9_readNumber 39 = .ok (.aload_n 0, 1) := by decide +kernel
theorem dX9_readNumber_40 : decode cX9_readNumber 40 = .ok (.invokevirtual 319, 3) := by decide +kernel
theorem dX9_readNumber_43 : decode cX9_readNumber 43 = .ok (.bipush 48, 2) := by decide +kernel
theorem dX9_readNumber_45 : decode cX9_readNumber 45 = .ok (.bipush 57, 2) := by decide +kernel
theorem dX9_readNumber_47 : decode cX9_readNumber 47 = .ok (.invokestatic 59, 3) := by decide +kernel
theorem dX9_readNumber_50 : decode cX9_readNumber 50 = .ok (.ifCond .eq 42, 3) := by decide +kernel
theorem dX9_readNumber_53 : decode cX9_readNumber 53 = .ok (.aload_n 0, 1) := by decide +kernel
theorem dX9_readNumber_54 : decode cX9_readNumber 54 = .ok (.getfield 47, 3) := by decide +kernel
theorem dX9_readNumber_57 : decode cX9_readNumber 57 = .ok (.iload_n 1, 1) := by decide +kernel
theorem dX9_readNumber_58 : decode cX9_readNumber 58 = .ok (.bipush 10, 2) := by decide +kernel
theorem dX9_readNumber_60 : decode cX9_readNumber 60 = .ok (.aload_n 0, 1) := by decide +kernel
theorem dX9_readNumber_61 : decode cX9_readNumber 61 = .ok (.getfield 47, 3) := by decide +kernel
theorem dX9_readNumber_64 : decode cX9_readNumber 64 = .ok (.iload_n 1, 1) := by decide +kernel
theorem dX9_readNumber_65 : decode cX9_readNumber 65 = .ok (.iaload, 1) := by decide +kernel
theorem dX9_readNumber_66 : decode cX9_readNumber 66 = .ok (.imul, 1) := by decide +kernel
theorem dX9_readNumber_67 : decode cX9_readNumber 67 = .ok (.aload_n 0, 1) := by decide +kernel
theorem dX9_readNumber_68 : decode cX9_readNumber 68 = .ok (.invokevirtual 319, 3) := by decide +kernel
theorem dX9_readNumber_71 : decode cX9_readNumber 71 = .ok (.iadd, 1) := by decide +kernel
theorem dX9_readNumber_72 : decode cX9_readNumber 72 = .ok (.bipush 48, 2) := by decide +kernel
theorem dX9_readNumber_74 : decode cX9_readNumber 74 = .ok (.isub, 1) := by decide +kernel
theorem dX9_readNumber_75 : decode cX9_readNumber 75 = .ok (.iastore, 1) := by decide +kernel
theorem dX9_readNumber_76 : decode cX9_readNumber 76 = .ok (.aload_n 0, 1) := by decide +kernel
theorem dX9_readNumber_77 : decode cX9_readNumber 77 = .ok (.dup, 1) := by decide +kernel
theorem dX9_readNumber_78 : decode cX9_readNumber 78 = .ok (.getfield 292, 3) := by decide +kernel
theorem dX9_readNumber_81 : decode cX9_readNumber 81 = .ok (.iconst 1, 1) := by decide +kernel
theorem dX9_readNumber_82 : decode cX9_readNumber 82 = .ok (.iadd, 1) := by decide +kernel
theorem dX9_readNumber_83 : decode cX9_readNumber 83 = .ok (.putfield 292, 3) := by decide +kernel
theorem dX9_readNumber_86 : decode cX9_readNumber 86 = .ok (.iinc 2 1, 3) := by decide +kernel
theorem dX9_readNumber_89 : decode cX9_readNumber 89 = .ok (.goto (-55), 3) := by decide +kernel
theorem dX9_readNumber_92 : decode cX9_readNumber 92 = .ok (.aload_n 0, 1) := by decide +kernel
theorem dX9_readNumber_93 : decode cX9_readNumber 93 = .ok (.iload_n 2, 1) := by decide +kernel
theorem dX9_readNumber_94 : decode cX9_readNumber 94 = .ok (.ifCond .ne 7, 3) := by decide +kernel
theorem dX9_readNumber_97 : decode cX9_readNumber 97 = .ok (.iconst 1, 1) := by decide +kernel
theorem dX9_readNumber_98 : decode cX9_readNumber 98 = .ok (.goto 4, 3) := by decide +kernel
theorem dX9_readNumber_101 : decode cX9_readNumber 101 = .ok (.iconst 0, 1) := by decide +kernel
theorem dX9_readNumber_102 : decode cX9_readNumber 102 = .ok (.putfield 322, 3) := by decide +kernel
theorem dX9_readNumber_105 : decode cX9_readNumber 105 = .ok (.return_, 1) := by decide +kernel
theorem dX9_perform_0 : decode cX9_perform 0 = .ok (.aload_n 0, 1) := by decide +kernel
theorem dX9_perform_1 : decode cX9_perform 1 = .ok (.getfield 47, 3) := by decide +kernel
theorem dX9_perform_4 : decode cX9_perform 4 = .ok (.iconst 0, 1) := by decide +kernel
theorem dX9_perform_5 : decode cX9_perform 5 = .ok (.iaload, 1) := by decide +kernel
theorem dX9_perform_6 : decode cX9_perform 6 = .ok (.istore_n 2, 1) := by decide +kernel
theorem dX9_perform_7 : decode cX9_perform 7 = .ok (.aload_n 0, 1) := by decide +kernel
theorem dX9_perform_8 : decode cX9_perform 8 = .ok (.getfield 47, 3) := by decide +kernel
theorem dX9_perform_11 : decode cX9_perform 11 = .ok (.iconst 1, 1) := by decide +kernel
theorem dX9_perform_12 : decode cX9_perform 12 = .ok (.iaload, 1) := by decide +kernel
theorem dX9_perform_13 : decode cX9_perform 13 = .ok (.istore_n 3, 1) := by decide +kernel
theorem dX9_perform_14 : decode cX9_perform 14 = .ok (.iload_n 1, 1) := by decide +kernel
theorem dX9_perform_15 : decode cX9_perform 15 = .ok (.tableswitch 120 0 8 #[49, 68, 74, 81, 88, 95, 102, 108, 115], 49) := by decide +kernel
theorem dX9_perform_64 : decode cX9_perform 64 = .ok (.aload_n 0, 1) := by decide +kernel
theorem dX9_perform_65 : decode cX9_perform 65 = .ok (.iload_n 2, 1) := by decide +kernel
theorem dX9_perform_66 : decode cX9_perform 66 = .ok (.iload_n 3, 1) := by decide +kernel
theorem dX9_perform_67 : decode cX9_perform 67 = .ok (.aload_n 0, 1) := by decide +kernel
theorem dX9_perform_68 : decode cX9_perform 68 = .ok (.getfield 47, 3) := by decide +kernel
theorem dX9_perform_71 : decode cX9_perform 71 = .ok (.iconst 2, 1) := by decide +kernel
theorem dX9_perform_72 : decode cX9_perform 72 = .ok (.iaload, 1) := by decide +kernel
theorem dX9_perform_73 : decode cX9_perform 73 = .ok (.aload_n 0, 1) := by decide +kernel
theorem dX9_perform_74 : decode cX9_perform 74 = .ok (.getfield 47, 3) := by decide +kernel
theorem dX9_perform_77 : decode cX9_perform 77 = .ok (.iconst 3, 1) := by decide +kernel
theorem dX9_perform_78 : decode cX9_perform 78 = .ok (.iaload, 1) := by decide +kernel
theorem dX9_perform_79 : decode cX9_perform 79 = .ok (.invokevirtual 325, 3) := by decide +kernel
theorem dX9_perform_82 : decode cX9_perform 82 = .ok (.ireturn, 1) := by decide +kernel
theorem dX9_perform_83 : decode cX9_perform 83 = .ok (.aload_n 0, 1) := by decide +kernel
theorem dX9_perform_84 : decode cX9_perform 84 = .ok (.iload_n 2, 1) := by decide +kernel
theorem dX9_perform_85 : decode cX9_perform 85 = .ok (.invokevirtual 329, 3) := by decide +kernel
theorem dX9_perform_88 : decode cX9_perform 88 = .ok (.ireturn, 1) := by decide +kernel
theorem dX9_perform_89 : decode cX9_perform 89 = .ok (.aload_n 0, 1) := by decide +kernel
theorem dX9_perform_90 : decode cX9_perform 90 = .ok (.iload_n 2, 1) := by decide +kernel
theorem dX9_perform_91 : decode cX9_perform 91 = .ok (.iload_n 3, 1) := by decide +kernel
theorem dX9_perform_92 : decode cX9_perform 92 = .ok (.invokevirtual 332, 3) := by decide +kernel
theorem dX9_perform_95 : decode cX9_perform 95 = .ok (.ireturn, 1) := by decide +kernel
theorem dX9_perform_96 : decode cX9_perform 96 = .ok (.aload_n 0, 1) := by decide +kernel
theorem dX9_perform_97 : decode cX9_perform 97 = .ok (.iload_n 2, 1) := by decide +kernel
theorem dX9_perform_98 : decode cX9_perform 98 = .ok (.iload_n 3, 1) := by decide +kernel
theorem dX9_perform_99 : decode cX9_perform 99 = .ok (.invokevirtual 334, 3) := by decide +kernel
theorem dX9_perform_102 : decode cX9_perform 102 = .ok (.ireturn, 1) := by decide +kernel
theorem dX9_perform_103 : decode cX9_perform 103 = .ok (.aload_n 0, 1) := by decide +kernel
theorem dX9_perform_104 : decode cX9_perform 104 = .ok (.iload_n 2, 1) := by decide +kernel
theorem dX9_perform_105 : decode cX9_perform 105 = .ok (.iload_n 3, 1) := by decide +kernel
theorem dX9_perform_106 : decode cX9_perform 106 = .ok (.invokevirtual 336, 3) := by decide +kernel
theorem dX9_perform_109 : decode cX9_perform 109 = .ok (.ireturn, 1) := by decide +kernel
theorem dX9_perform_110 : decode cX9_perform 110 = .ok (.aload_n 0, 1) := by decide +kernel
theorem dX9_perform_111 : decode cX9_perform 111 = .ok (.iload_n 2, 1) := by decide +kernel
theorem dX9_perform_112 : decode cX9_perform 112 = .ok (.iload_n 3, 1) := by decide +kernel
theorem dX9_perform_113 : decode cX9_perform 113 = .ok (.invokevirtual 338, 3) := by decide +kernel
theorem dX9_perform_116 : decode cX9_perform 116 = .ok (.ireturn, 1) := by decide +kernel
theorem dX9_perform_117 : decode cX9_perform 117 = .ok (.aload_n 0, 1) := by decide +kernel
theorem dX9_perform_118 : decode cX9_perform 118 = .ok (.iload_n 2, 1) := by decide +kernel
theorem dX9_perform_119 : decode cX9_perform 119 = .ok (.invokevirtual 341, 3) := by decide +kernel
theorem dX9_perform_122 : decode cX9_perform 122 = .ok (.ireturn, 1) := by decide +kernel
theorem dX9_perform_123 : decode cX9_perform 123 = .ok (.aload_n 0, 1) := by decide +kernel
theorem dX9_perform_124 : decode cX9_perform 124 = .ok (.iload_n 2, 1) := by decide +kernel
theorem dX9_perform_125 : decode cX9_perform 125 = .ok (.iload_n 3, 1) := by decide +kernel
theorem dX9_perform_126 : decode cX9_perform 126 = .ok (.invokevirtual 343, 3) := by decide +kernel
theorem dX9_perform_129 : decode cX9_perform 129 = .ok (.ireturn, 1) := by decide +kernel
theorem dX9_perform_130 : decode cX9_perform 130 = .ok (.aload_n 0, 1) := by decide +kernel
theorem dX9_perform_131 : decode cX9_perform 131 = .ok (.invokevirtual 346, 3) := by decide +kernel
theorem dX9_perform_134 : decode cX9_perform 134 = .ok (.ireturn, 1) := by decide +kernel
theorem dX9_perform_135 : decode cX9_perform 135 = .ok (.aload_n 0, 1) := by decide +kernel
theorem dX9_perform_136 : decode cX9_perform 136 = .ok (.invokevirtual 348, 3) := by decide +kernel
theorem dX9_perform_139 : decode cX9_perform 139 = .ok (.ireturn, 1) := by decide +kernel
theorem dX9_command_0 : decode cX9_command 0 = .ok (.aload_n 0, 1) := by decide +kernel
theorem dX9_command_1 : decode cX9_command 1 = .ok (.getfield 292, 3) := by decide +kernel
theorem dX9_command_4 : decode cX9_command 4 = .ok (.istore_n 2, 1) := by decide +kernel
theorem dX9_command_5 : decode cX9_command 5 = .ok (.aload_n 0, 1) := by decide +kernel
theorem dX9_command_6 : decode cX9_command 6 = .ok (.invokevirtual 319, 3) := by decide +kernel
theorem dX9_command_9 : decode cX9_command 9 = .ok (.bipush 97, 2) := by decide +kernel
theorem dX9_command_11 : decode cX9_command 11 = .ok (.bipush 122, 2) := by decide +kernel
theorem dX9_command_13 : decode cX9_command 13 = .ok (.invokestatic 59, 3) := by decide +kernel
theorem dX9_command_16 : decode cX9_command 16 = .ok (.ifCond .eq 16, 3) := by decide +kernel
theorem dX9_command_19 : decode cX9_command 19 = .ok (.aload_n 0, 1) := by decide +kernel
theorem dX9_command_20 : decode cX9_command 20 = .ok (.dup, 1) := by decide +kernel
theorem dX9_command_21 : decode cX9_command 21 = .ok (.getfield 292, 3) := by decide +kernel
theorem dX9_command_24 : decode cX9_command 24 = .ok (.iconst 1, 1) := by decide +kernel
theorem dX9_command_25 : decode cX9_command 25 = .ok (.iadd, 1) := by decide +kernel
theorem dX9_command_26 : decode cX9_command 26 = .ok (.putfield 292, 3) := by decide +kernel
theorem dX9_command_29 : decode cX9_command 29 = .ok (.goto (-24), 3) := by decide +kernel
theorem dX9_command_32 : decode cX9_command 32 = .ok (.aload_n 0, 1) := by decide +kernel
theorem dX9_command_33 : decode cX9_command 33 = .ok (.iload_n 2, 1) := by decide +kernel
theorem dX9_command_34 : decode cX9_command 34 = .ok (.invokevirtual 350, 3) := by decide +kernel
theorem dX9_command_37 : decode cX9_command 37 = .ok (.istore_n 3, 1) := by decide +kernel
theorem dX9_command_38 : decode cX9_command 38 = .ok (.iload_n 3, 1) := by decide +kernel
theorem dX9_command_39 : decode cX9_command 39 = .ok (.ifCond .ge 15, 3) := by decide +kernel
theorem dX9_command_42 : decode cX9_command 42 = .ok (.aload_n 0, 1) := by decide +kernel
theorem dX9_command_43 : decode cX9_command 43 = .ok (.iload_n 2, 1) := by decide +kernel
theorem dX9_command_44 : decode cX9_command 44 = .ok (.putfield 292, 3) := by decide +kernel
theorem dX9_command_47 : decode cX9_command 47 = .ok (.aload_n 0, 1) := by decide +kernel
theorem dX9_command_48 : decode cX9_command 48 = .ok (.iconst 1, 1) := by decide +kernel
theorem dX9_command_49 : decode cX9_command 49 = .ok (.putfield 322, 3) := by decide +kernel
theorem dX9_command_52 : decode cX9_command 52 = .ok (.iconst 0, 1) := by decide +kernel
theorem dX9_command_53 : decode cX9_command 53 = .ok (.ireturn, 1) := by decide +kernel
theorem dX9_command_54 : decode cX9_command 54 = .ok (.iload_n 3, 1) := by decide +kernel
theorem dX9_command_55 : decode cX9_command 55 = .ok (.ifCond .ne 7, 3) := by decide +kernel
theorem dX9_command_58 : decode cX9_command 58 = .ok (.iconst 4, 1) := by decide +kernel
theorem dX9_command_59 : decode cX9_command 59 = .ok (.goto 29, 3) := by decide +kernel
theorem dX9_command_62 : decode cX9_command 62 = .ok (.iload_n 3, 1) := by decide +kernel
theorem dX9_command_63 : decode cX9_command 63 = .ok (.iconst 1, 1) := by decide +kernel
theorem dX9_command_64 : decode cX9_command 64 = .ok (.if_icmp .eq 9, 3) := by decide +kernel
theorem dX9_command_67 : decode cX9_command 67 = .ok (.iload_n 3, 1) := by decide +kernel
theorem dX9_command_68 : decode cX9_command 68 = .ok (.bipush 6, 2) := by decide +kernel
theorem dX9_command_70 : decode cX9_command 70 = .ok (.if_icmp .ne 7, 3) := by decide +kernel
theorem dX9_command_73 : decode cX9_command 73 = .ok (.iconst 1, 1) := by decide +kernel
theorem dX9_command_74 : decode cX9_command 74 = .ok (.goto 14, 3) := by decide +kernel
theorem dX9_command_77 : decode cX9_command 77 = .ok (.iload_n 3, 1) := by decide +kernel
theorem dX9_command_78 : decode cX9_command 78 = .ok (.bipush 7, 2) := by decide +kernel
theorem dX9_command_80 : decode cX9_command 80 = .ok (.if_icmp .le 7, 3) := by decide +kernel
theorem dX9_command_83 : decode cX9_command 83 = .ok (.iconst 0, 1) := by decide +kernel
theorem dX9_command_84 : decode cX9_command 84 = .ok (.goto 4, 3) := by decide +kernel
theorem dX9_command_87 : decode cX9_command 87 = .ok (.iconst 2, 1) := by decide +kernel
theorem dX9_command_88 : decode cX9_command 88 = .ok (.istore 4, 2) := by decide +kernel
theorem dX9_command_90 : decode cX9_command 90 = .ok (.iconst 0, 1) := by decide +kernel
theorem dX9_command_91 : decode cX9_command 91 = .ok (.istore 5, 2) := by decide +kernel
theorem dX9_command_93 : decode cX9_command 93 = .ok (.iload 5, 2) := by decide +kernel
theorem dX9_command_95 : decode cX9_command 95 = .ok (.iload 4, 2) := by decide +kernel
theorem dX9_command_97 : decode cX9_command 97 = .ok (.if_icmp .ge 22, 3) := by decide +kernel
theorem dX9_command_100 : decode cX9_command 100 = .ok (.aload_n 0, 1) := by decide +kernel
theorem dX9_command_101 : decode cX9_command 101 = .ok (.getfield 322, 3) := by decide +kernel
theorem dX9_command_104 : decode cX9_command 104 = .ok (.ifCond .ne 15, 3) := by decide +kernel
theorem dX9_command_107 : decode cX9_command 107 = .ok (.aload_n 0, 1) := by decide +kernel
theorem dX9_command_108 : decode cX9_command 108 = .ok (.iload 5, 2) := by decide +kernel
theorem dX9_command_110 : decode cX9_command 110 = .ok (.invokevirtual 353, 3) := by decide +kernel
theorem dX9_command_113 : decode cX9_command 113 = .ok (.iinc 5 1, 3) := by decide +kernel
theorem dX9_command_116 : decode cX9_command 116 = .ok (.goto (-23), 3) := by decide +kernel
theorem dX9_command_119 : decode cX9_command 119 = .ok (.aload_n 0, 1) := by decide +kernel
theorem dX9_command_120 : decode cX9_command 120 = .ok (.getfield 322, 3) := by decide +kernel
theorem dX9_command_123 : decode cX9_command 123 = .ok (.ifCond .ne 7, 3) := by decide +kernel
theorem dX9_command_126 : decode cX9_command 126 = .ok (.iload_n 1, 1) := by decide +kernel
theorem dX9_command_127 : decode cX9_command 127 = .ok (.ifCond .ne 7, 3) := by decide +kernel
theorem dX9_command_130 : decode cX9_command 130 = .ok (.iconst 0, 1) := by decide +kernel
theorem dX9_command_131 : decode cX9_command 131 = .ok (.goto 8, 3) := by decide +kernel
theorem dX9_command_134 : decode cX9_command 134 = .ok (.aload_n 0, 1) := by decide +kernel
theorem dX9_command_135 : decode cX9_command 135 = .ok (.iload_n 3, 1) := by decide +kernel
theorem dX9_command_136 : decode cX9_command 136 = .ok (.invokevirtual 356, 3) := by decide +kernel
theorem dX9_command_139 : decode cX9_command 139 = .ok (.ireturn, 1) := by decide +kernel
theorem dX9_execute_0 : decode cX9_execute 0 = .ok (.aload_n 0, 1) := by decide +kernel
theorem dX9_execute_1 : decode cX9_execute 1 = .ok (.iconst 0, 1) := by decide +kernel
theorem dX9_execute_2 : decode cX9_execute 2 = .ok (.putfield 292, 3) := by decide +kernel
theorem dX9_execute_5 : decode cX9_execute 5 = .ok (.aload_n 0, 1) := by decide +kernel
theorem dX9_execute_6 : decode cX9_execute 6 = .ok (.iconst 0, 1) := by decide +kernel
theorem dX9_execute_7 : decode cX9_execute 7 = .ok (.putfield 322, 3) := by decide +kernel
theorem dX9_execute_10 : decode cX9_execute 10 = .ok (.iconst 0, 1) := by decide +kernel
theorem dX9_execute_11 : decode cX9_execute 11 = .ok (.istore_n 1, 1) := by decide +kernel
theorem dX9_execute_12 : decode cX9_execute 12 = .ok (.iconst 1, 1) := by decide +kernel
theorem dX9_execute_13 : decode cX9_execute 13 = .ok (.istore_n 2, 1) := by decide +kernel
theorem dX9_execute_14 : decode cX9_execute 14 = .ok (.iload_n 2, 1) := by decide +kernel
theorem dX9_execute_15 : decode cX9_execute 15 = .ok (.ifCond .eq 55, 3) := by decide +kernel
theorem dX9_execute_18 : decode cX9_execute 18 = .ok (.aload_n 0, 1) := by decide +kernel
theorem dX9_execute_19 : decode cX9_execute 19 = .ok (.iconst 0, 1) := by decide +kernel
theorem dX9_execute_20 : decode cX9_execute 20 = .ok (.invokevirtual 359, 3) := by decide +kernel
theorem dX9_execute_23 : decode cX9_execute 23 = .ok (.istore_n 3, 1) := by decide +kernel
theorem dX9_execute_24 : decode cX9_execute 24 = .ok (.iinc 1 1, 3) := by decide +kernel
theorem dX9_execute_27 : decode cX9_execute 27 = .ok (.aload_n 0, 1) := by decide +kernel
theorem dX9_execute_28 : decode cX9_execute 28 = .ok (.getfield 322, 3) := by decide +kernel
theorem dX9_execute_31 : decode cX9_execute 31 = .ok (.ifCond .ne 16, 3) := by decide +kernel
theorem dX9_execute_34 : decode cX9_execute 34 = .ok (.aload_n 0, 1) := by decide +kernel
theorem dX9_execute_35 : decode cX9_execute 35 = .ok (.invokevirtual 319, 3) := by decide +kernel
theorem dX9_execute_38 : decode cX9_execute 38 = .ok (.bipush 59, 2) := by decide +kernel
theorem dX9_execute_40 : decode cX9_execute 40 = .ok (.if_icmp .ne 7, 3) := by decide +kernel
theorem dX9_execute_43 : decode cX9_execute 43 = .ok (.iconst 1, 1) := by decide +kernel
theorem dX9_execute_44 : decode cX9_execute 44 = .ok (.goto 4, 3) := by decide +kernel
theorem dX9_execute_47 : decode cX9_execute 47 = .ok (.iconst 0, 1) := by decide +kernel
theorem dX9_execute_48 : decode cX9_execute 48 = .ok (.istore_n 2, 1) := by decide +kernel
theorem dX9_execute_49 : decode cX9_execute 49 = .ok (.aload_n 0, 1) := by decide +kernel
theorem dX9_execute_50 : decode cX9_execute 50 = .ok (.dup, 1) := by decide +kernel
theorem dX9_execute_51 : decode cX9_execute 51 = .ok (.getfield 292, 3) := by decide +kernel
theorem dX9_execute_54 : decode cX9_execute 54 = .ok (.iload_n 2, 1) := by decide +kernel
theorem dX9_execute_55 : decode cX9_execute 55 = .ok (.ifCond .eq 7, 3) := by decide +kernel
theorem dX9_execute_58 : decode cX9_execute 58 = .ok (.iconst 1, 1) := by decide +kernel
theorem dX9_execute_59 : decode cX9_execute 59 = .ok (.goto 4, 3) := by decide +kernel
theorem dX9_execute_62 : decode cX9_execute 62 = .ok (.iconst 0, 1) := by decide +kernel
theorem dX9_execute_63 : decode cX9_execute 63 = .ok (.iadd, 1) := by decide +kernel
theorem dX9_execute_64 : decode cX9_execute 64 = .ok (.putfield 292, 3) := by decide +kernel
theorem dX9_execute_67 : decode cX9_execute 67 = .ok (.goto (-53), 3) := by decide +kernel
theorem dX9_execute_70 : decode cX9_execute 70 = .ok (.aload_n 0, 1) := by decide +kernel
theorem dX9_execute_71 : decode cX9_execute 71 = .ok (.getfield 322, 3) := by decide +kernel
theorem dX9_execute_74 : decode cX9_execute 74 = .ok (.ifCond .ne 14, 3) := by decide +kernel
theorem dX9_execute_77 : decode cX9_execute 77 = .ok (.aload_n 0, 1) := by decide +kernel
theorem dX9_execute_78 : decode cX9_execute 78 = .ok (.getfield 292, 3) := by decide +kernel
theorem dX9_execute_81 : decode cX9_execute 81 = .ok (.aload_n 0, 1) := by decide +kernel
theorem dX9_execute_82 : decode cX9_execute 82 = .ok (.getfield 290, 3) := by decide +kernel
theorem dX9_execute_85 : decode cX9_execute 85 = .ok (.if_icmp .ge 17, 3) := by decide +kernel
theorem dX9_execute_88 : decode cX9_execute 88 = .ok (.aload_n 0, 1) := by decide +kernel
theorem dX9_execute_89 : decode cX9_execute 89 = .ok (.iconst 0, 1) := by decide +kernel
theorem dX9_execute_90 : decode cX9_execute 90 = .ok (.putfield 290, 3) := by decide +kernel
theorem dX9_execute_93 : decode cX9_execute 93 = .ok (.sipush (-200), 3) := by decide +kernel
theorem dX9_execute_96 : decode cX9_execute 96 = .ok (.aload_n 0, 1) := by decide +kernel
theorem dX9_execute_97 : decode cX9_execute 97 = .ok (.getfield 292, 3) := by decide +kernel
theorem dX9_execute_100 : decode cX9_execute 100 = .ok (.isub, 1) := by decide +kernel
theorem dX9_execute_101 : decode cX9_execute 101 = .ok (.ireturn, 1) := by decide +kernel
theorem dX9_execute_102 : decode cX9_execute 102 = .ok (.aload_n 0, 1) := by decide +kernel
theorem dX9_execute_103 : decode cX9_execute 103 = .ok (.getfield 9, 3) := by decide +kernel
theorem dX9_execute_106 : decode cX9_execute 106 = .ok (.iconst 0, 1) := by decide +kernel
theorem dX9_execute_107 : decode cX9_execute 107 = .ok (.aload_n 0, 1) := by decide +kernel
theorem dX9_execute_108 : decode cX9_execute 108 = .ok (.getfield 19, 3) := by decide +kernel
theorem dX9_execute_111 : decode cX9_execute 111 = .ok (.iconst 0, 1) := by decide +kernel
theorem dX9_execute_112 : decode cX9_execute 112 = .ok (.sipush 298, 3) := by decide +kernel
theorem dX9_execute_115 : decode cX9_execute 115 = .ok (.invokestatic 53, 3) := by decide +kernel
theorem dX9_execute_118 : decode cX9_execute 118 = .ok (.aload_n 0, 1) := by decide +kernel
theorem dX9_execute_119 : decode cX9_execute 119 = .ok (.iconst 0, 1) := by decide +kernel
theorem dX9_execute_120 : decode cX9_execute 120 = .ok (.putfield 292, 3) := by decide +kernel
theorem dX9_execute_123 : decode cX9_execute 123 = .ok (.aload_n 0, 1) := by decide +kernel
theorem dX9_execute_124 : decode cX9_execute 124 = .ok (.iconst 1, 1) := by decide +kernel
theorem dX9_execute_125 : decode cX9_execute 125 = .ok (.putfield 71, 3) := by decide +kernel
theorem dX9_execute_128 : decode cX9_execute 128 = .ok (.iconst 0, 1) := by decide +kernel
theorem dX9_execute_129 : decode cX9_execute 129 = .ok (.istore_n 3, 1) := by decide +kernel
theorem dX9_execute_130 : decode cX9_execute 130 = .ok (.iload_n 3, 1) := by decide +kernel
theorem dX9_execute_131 : decode cX9_execute 131 = .ok (.iload_n 1, 1) := by decide +kernel
theorem dX9_execute_132 : decode cX9_execute 132 = .ok (.if_icmp .ge 27, 3) := by decide +kernel
theorem dX9_execute_135 : decode cX9_execute 135 = .ok (.aload_n 0, 1) := by decide +kernel
theorem dX9_execute_136 : decode cX9_execute 136 = .ok (.iconst 1, 1) := by decide +kernel
theorem dX9_execute_137 : decode cX9_execute 137 = .ok (.invokevirtual 359, 3) := by decide +kernel
theorem dX9_execute_140 : decode cX9_execute 140 = .ok (.ifCond .lt 19, 3) := by decide +kernel
theorem dX9_execute_143 : decode cX9_execute 143 = .ok (.aload_n 0, 1) := by decide +kernel
theorem dX9_execute_144 : decode cX9_execute 144 = .ok (.dup, 1) := by decide +kernel
theorem dX9_execute_145 : decode cX9_execute 145 = .ok (.getfield 292, 3) := by decide +kernel
theorem dX9_execute_148 : decode cX9_execute 148 = .ok (.iconst 1, 1) := by decide +kernel
theorem dX9_execute_149 : decode cX9_execute 149 = .ok (.iadd, 1) := by decide +kernel
theorem dX9_execute_150 : decode cX9_execute 150 = .ok (.putfield 292, 3) := by decide +kernel
theorem dX9_execute_153 : decode cX9_execute 153 = .ok (.iinc 3 1, 3) := by decide +kernel
theorem dX9_execute_156 : decode cX9_execute 156 = .ok (.goto (-26), 3) := by decide +kernel
theorem dX9_execute_159 : decode cX9_execute 159 = .ok (.aload_n 0, 1) := by decide +kernel
theorem dX9_execute_160 : decode cX9_execute 160 = .ok (.iconst 0, 1) := by decide +kernel
theorem dX9_execute_161 : decode cX9_execute 161 = .ok (.putfield 71, 3) := by decide +kernel
theorem dX9_execute_164 : decode cX9_execute 164 = .ok (.aload_n 0, 1) := by decide +kernel
theorem dX9_execute_165 : decode cX9_execute 165 = .ok (.iconst 0, 1) := by decide +kernel
theorem dX9_execute_166 : decode cX9_execute 166 = .ok (.putfield 290, 3) := by decide +kernel
theorem dX9_execute_169 : decode cX9_execute 169 = .ok (.iload_n 3, 1) := by decide +kernel
theorem dX9_execute_170 : decode cX9_execute 170 = .ok (.iload_n 1, 1) := by decide +kernel
theorem dX9_execute_171 : decode cX9_execute 171 = .ok (.if_icmp .ge 25, 3) := by decide +kernel
theorem dX9_execute_174 : decode cX9_execute 174 = .ok (.aload_n 0, 1) := by decide +kernel
theorem dX9_execute_175 : decode cX9_execute 175 = .ok (.getfield 19, 3) := by decide +kernel
theorem dX9_execute_178 : decode cX9_execute 178 = .ok (.iconst 0, 1) := by decide +kernel
theorem dX9_execute_179 : decode cX9_execute 179 = .ok (.aload_n 0, 1) := by decide +kernel
theorem dX9_execute_180 : decode cX9_execute 180 = .ok (.getfield 9, 3) := by decide +kernel
theorem dX9_execute_183 : decode cX9_execute 183 = .ok (.iconst 0, 1) := by decide +kernel
theorem dX9_execute_184 : decode cX9_execute 184 = .ok (.sipush 298, 3) := by decide +kernel
theorem dX9_execute_187 : decode cX9_execute 187 = .ok (.invokestatic 53, 3) := by decide +kernel
theorem dX9_execute_190 : decode cX9_execute 190 = .ok (.sipush (-300), 3) := by decide +kernel
theorem dX9_execute_193 : decode cX9_execute 193 = .ok (.iload_n 3, 1) := by decide +kernel
theorem dX9_execute_194 : decode cX9_execute 194 = .ok (.isub, 1) := by decide +kernel
theorem dX9_execute_195 : decode cX9_execute 195 = .ok (.ireturn, 1) := by decide +kernel
theorem dX9_execute_196 : decode cX9_execute 196 = .ok (.aload_n 0, 1) := by decide +kernel
theorem dX9_execute_197 : decode cX9_execute 197 = .ok (.aload_n 0, 1) := by decide +kernel
theorem dX9_execute_198 : decode cX9_execute 198 = .ok (.getfield 19, 3) := by decide +kernel
theorem dX9_execute_201 : decode cX9_execute 201 = .ok (.invokevirtual 75, 3) := by decide +kernel
theorem dX9_execute_204 : decode cX9_execute 204 = .ok (.iload_n 1, 1) := by decide +kernel
theorem dX9_execute_205 : decode cX9_execute 205 = .ok (.ireturn, 1) := by decide +kernel
theorem dX9_save_0 : decode cX9_save 0 = .ok (.aload_n 0, 1) := by decide +kernel
theorem dX9_save_1 : decode cX9_save 1 = .ok (.getfield 9, 3) := by decide +kernel
theorem dX9_save_4 : decode cX9_save 4 = .ok (.iconst 0, 1) := by decide +kernel
theorem dX9_save_5 : decode cX9_save 5 = .ok (.aload_n 0, 1) := by decide +kernel
theorem dX9_save_6 : decode cX9_save 6 = .ok (.getfield 13, 3) := by decide +kernel
theorem dX9_save_9 : decode cX9_save 9 = .ok (.iconst 0, 1) := by decide +kernel
theorem dX9_save_10 : decode cX9_save 10 = .ok (.sipush 298, 3) := by decide +kernel
theorem dX9_save_13 : decode cX9_save 13 = .ok (.invokestatic 53, 3) := by decide +kernel
theorem dX9_save_16 : decode cX9_save 16 = .ok (.aload_n 0, 1) := by decide +kernel
theorem dX9_save_17 : decode cX9_save 17 = .ok (.iconst 1, 1) := by decide +kernel
theorem dX9_save_18 : decode cX9_save 18 = .ok (.putfield 363, 3) := by decide +kernel
theorem dX9_save_21 : decode cX9_save 21 = .ok (.aload_n 0, 1) := by decide +kernel
theorem dX9_save_22 : decode cX9_save 22 = .ok (.getfield 9, 3) := by decide +kernel
theorem dX9_save_25 : decode cX9_save 25 = .ok (.iconst 0, 1) := by decide +kernel
theorem dX9_save_26 : decode cX9_save 26 = .ok (.iaload, 1) := by decide +kernel
theorem dX9_save_27 : decode cX9_save 27 = .ok (.ireturn, 1) := by decide +kernel
theorem dX9_restore_0 : decode cX9_restore 0 = .ok (.aload_n 0, 1) := by decide +kernel
theorem dX9_restore_1 : decode cX9_restore 1 = .ok (.getfield 363, 3) := by decide +kernel
theorem dX9_restore_4 : decode cX9_restore 4 = .ok (.ifCond .ne 6, 3) := by decide +kernel
theorem dX9_restore_7 : decode cX9_restore 7 = .ok (.bipush (-2), 2) := by decide +kernel
theorem dX9_restore_9 : decode cX9_restore 9 = .ok (.ireturn, 1) := by decide +kernel
theorem dX9_restore_10 : decode cX9_restore 10 = .ok (.aload_n 0, 1) := by decide +kernel
theorem dX9_restore_11 : decode cX9_restore 11 = .ok (.invokevirtual 88, 3) := by decide +kernel
theorem dX9_restore_14 : decode cX9_restore 14 = .ok (.aload_n 0, 1) := by decide +kernel
theorem dX9_restore_15 : decode cX9_restore 15 = .ok (.getfield 13, 3) := by decide +kernel
theorem dX9_restore_18 : decode cX9_restore 18 = .ok (.iconst 0, 1) := by decide +kernel
theorem dX9_restore_19 : decode cX9_restore 19 = .ok (.aload_n 0, 1) := by decide +kernel
theorem dX9_restore_20 : decode cX9_restore 20 = .ok (.getfield 9, 3) := by decide +kernel
theorem dX9_restore_23 : decode cX9_restore 23 = .ok (.iconst 0, 1) := by decide +kernel
theorem dX9_restore_24 : decode cX9_restore 24 = .ok (.sipush 298, 3) := by decide +kernel
theorem dX9_restore_27 : decode cX9_restore 27 = .ok (.invokestatic 53, 3) := by decide +kernel
theorem dX9_restore_30 : decode cX9_restore 30 = .ok (.aload_n 0, 1) := by decide +kernel
theorem dX9_restore_31 : decode cX9_restore 31 = .ok (.getfield 9, 3) := by decide +kernel
theorem dX9_restore_34 : decode cX9_restore 34 = .ok (.iconst 0, 1) := by decide +kernel
theorem dX9_restore_35 : decode cX9_restore 35 = .ok (.iaload, 1) := by decide +kernel
theorem dX9_restore_36 : decode cX9_restore 36 = .ok (.ireturn, 1) := by decide +kernel
theorem dX9_undo_0 : decode cX9_undo 0 = .ok (.aload_n 0, 1) := by decide +kernel
theorem dX9_undo_1 : decode cX9_undo 1 = .ok (.getfield 67, 3) := by decide +kernel
theorem dX9_undo_4 : decode cX9_undo 4 = .ok (.ifCond .ne 6, 3) := by decide +kernel
theorem dX9_undo_7 : decode cX9_undo 7 = .ok (.bipush (-2), 2) := by decide +kernel
theorem dX9_undo_9 : decode cX9_undo 9 = .ok (.ireturn, 1) := by decide +kernel
theorem dX9_undo_10 : decode cX9_undo 10 = .ok (.aload_n 0, 1) := by decide +kernel
theorem dX9_undo_11 : decode cX9_undo 11 = .ok (.dup, 1) := by decide +kernel
theorem dX9_undo_12 : decode cX9_undo 12 = .ok (.getfield 67, 3) := by decide +kernel
theorem dX9_undo_15 : decode cX9_undo 15 = .ok (.iconst 1, 1) := by decide +kernel
theorem dX9_undo_16 : decode cX9_undo 16 = .ok (.isub, 1) := by decide +kernel
theorem dX9_undo_17 : decode cX9_undo 17 = .ok (.putfield 67, 3) := by decide +kernel
theorem dX9_undo_20 : decode cX9_undo 20 = .ok (.aload_n 0, 1) := by decide +kernel
theorem dX9_undo_21 : decode cX9_undo 21 = .ok (.getfield 16, 3) := by decide +kernel
theorem dX9_undo_24 : decode cX9_undo 24 = .ok (.sipush 298, 3) := by decide +kernel
theorem dX9_undo_27 : decode cX9_undo 27 = .ok (.aload_n 0, 1) := by decide +kernel
theorem dX9_undo_28 : decode cX9_undo 28 = .ok (.getfield 67, 3) := by decide +kernel
theorem dX9_undo_31 : decode cX9_undo 31 = .ok (.imul, 1) := by decide +kernel
theorem dX9_undo_32 : decode cX9_undo 32 = .ok (.aload_n 0, 1) := by decide +kernel
theorem dX9_undo_33 : decode cX9_undo 33 = .ok (.getfield 9, 3) := by decide +kernel
theorem dX9_undo_36 : decode cX9_undo 36 = .ok (.iconst 0, 1) := by decide +kernel
theorem dX9_undo_37 : decode cX9_undo 37 = .ok (.sipush 298, 3) := by decide +kernel
theorem dX9_undo_40 : decode cX9_undo 40 = .ok (.invokestatic 53, 3) := by decide +kernel
theorem dX9_undo_43 : decode cX9_undo 43 = .ok (.aload_n 0, 1) := by decide +kernel
theorem dX9_undo_44 : decode cX9_undo 44 = .ok (.getfield 67, 3) := by decide +kernel
theorem dX9_undo_47 : decode cX9_undo 47 = .ok (.ireturn, 1) := by decide +kernel
