theorem dX0_init_0 : decode cX0_init 0 = .ok (.aload_n 0, 1) := by decide +kernel
theorem dX0_init_1 : decode cX0_init 1 = .ok (.invokespecial 3, 3) := by decide +kernel
theorem dX0_init_4 : decode cX0_init 4 = .ok (.aload_n 0, 1) := by decide +kernel
theorem dX0_init_5 : decode cX0_init 5 = .ok (.bipush 60, 2) := by decide +kernel
theorem dX0_init_7 : decode cX0_init 7 = .ok (.newarray .char, 2) := by decide +kernel
theorem dX0_init_9 : decode cX0_init 9 = .ok (.putfield 9, 3) := by decide +kernel
theorem dX0_init_12 : decode cX0_init 12 = .ok (.aload_n 0, 1) := by decide +kernel
theorem dX0_init_13 : decode cX0_init 13 = .ok (.bipush 60, 2) := by decide +kernel
theorem dX0_init_15 : decode cX0_init 15 = .ok (.newarray .int, 2) := by decide +kernel
theorem dX0_init_17 : decode cX0_init 17 = .ok (.putfield 15, 3) := by decide +kernel
theorem dX0_init_20 : decode cX0_init 20 = .ok (.aload_n 0, 1) := by decide +kernel
theorem dX0_init_21 : decode cX0_init 21 = .ok (.sipush 240, 3) := by decide +kernel
theorem dX0_init_24 : decode cX0_init 24 = .ok (.newarray .int, 2) := by decide +kernel
theorem dX0_init_26 : decode cX0_init 26 = .ok (.putfield 19, 3) := by decide +kernel
theorem dX0_init_29 : decode cX0_init 29 = .ok (.return_, 1) := by decide +kernel
theorem dX0_parse_0 : decode cX0_parse 0 = .ok (.aload_n 0, 1) := by decide +kernel
theorem dX0_parse_1 : decode cX0_parse 1 = .ok (.iconst 0, 1) := by decide +kernel
theorem dX0_parse_2 : decode cX0_parse 2 = .ok (.putfield 22, 3) := by decide +kernel
theorem dX0_parse_5 : decode cX0_parse 5 = .ok (.aload_n 0, 1) := by decide +kernel
theorem dX0_parse_6 : decode cX0_parse 6 = .ok (.iconst 0, 1) := by decide +kernel
theorem dX0_parse_7 : decode cX0_parse 7 = .ok (.putfield 26, 3) := by decide +kernel
theorem dX0_parse_10 : decode cX0_parse 10 = .ok (.iconst 0, 1) := by decide +kernel
theorem dX0_parse_11 : decode cX0_parse 11 = .ok (.istore_n 1, 1) := by decide +kernel
theorem dX0_parse_12 : decode cX0_parse 12 = .ok (.iload_n 1, 1) := by decide +kernel
theorem dX0_parse_13 : decode cX0_parse 13 = .ok (.bipush 60, 2) := by decide +kernel
theorem dX0_parse_15 : decode cX0_parse 15 = .ok (.if_icmp .ge 75, 3) := by decide +kernel
theorem dX0_parse_18 : decode cX0_parse 18 = .ok (.aload_n 0, 1) := by decide +kernel
theorem dX0_parse_19 : decode cX0_parse 19 = .ok (.iload_n 1, 1) := by decide +kernel
theorem dX0_parse_20 : decode cX0_parse 20 = .ok (.invokevirtual 29, 3) := by decide +kernel
theorem dX0_parse_23 : decode cX0_parse 23 = .ok (.ifCond .ne 8, 3) := by decide +kernel
theorem dX0_parse_26 : decode cX0_parse 26 = .ok (.aload_n 0, 1) := by decide +kernel
theorem dX0_parse_27 : decode cX0_parse 27 = .ok (.getfield 22, 3) := by decide +kernel
theorem dX0_parse_30 : decode cX0_parse 30 = .ok (.ireturn, 1) := by decide +kernel
theorem dX0_parse_31 : decode cX0_parse 31 = .ok (.aload_n 0, 1) := by decide +kernel
theorem dX0_parse_32 : decode cX0_parse 32 = .ok (.dup, 1) := by decide +kernel
theorem dX0_parse_33 : decode cX0_parse 33 = .ok (.getfield 26, 3) := by decide +kernel
theorem dX0_parse_36 : decode cX0_parse 36 = .ok (.iconst 1, 1) := by decide +kernel
theorem dX0_parse_37 : decode cX0_parse 37 = .ok (.iadd, 1) := by decide +kernel
theorem dX0_parse_38 : decode cX0_parse 38 = .ok (.putfield 26, 3) := by decide +kernel
theorem dX0_parse_41 : decode cX0_parse 41 = .ok (.aload_n 0, 1) := by decide +kernel
theorem dX0_parse_42 : decode cX0_parse 42 = .ok (.getfield 22, 3) := by decide +kernel
theorem dX0_parse_45 : decode cX0_parse 45 = .ok (.aload_n 0, 1) := by decide +kernel
theorem dX0_parse_46 : decode cX0_parse 46 = .ok (.getfield 33, 3) := by decide +kernel
theorem dX0_parse_49 : decode cX0_parse 49 = .ok (.if_icmp .lt 6, 3) := by decide +kernel
theorem dX0_parse_52 : decode cX0_parse 52 = .ok (.bipush (-2), 2) := by decide +kernel
theorem dX0_parse_54 : decode cX0_parse 54 = .ok (.ireturn, 1) := by decide +kernel
theorem dX0_parse_55 : decode cX0_parse 55 = .ok (.aload_n 0, 1) := by decide +kernel
theorem dX0_parse_56 : decode cX0_parse 56 = .ok (.getfield 9, 3) := by decide +kernel
theorem dX0_parse_59 : decode cX0_parse 59 = .ok (.aload_n 0, 1) := by decide +kernel
theorem dX0_parse_60 : decode cX0_parse 60 = .ok (.getfield 22, 3) := by decide +kernel
theorem dX0_parse_63 : decode cX0_parse 63 = .ok (.caload, 1) := by decide +kernel
theorem dX0_parse_64 : decode cX0_parse 64 = .ok (.bipush 59, 2) := by decide +kernel
theorem dX0_parse_66 : decode cX0_parse 66 = .ok (.if_icmp .eq 8, 3) := by decide +kernel
theorem dX0_parse_69 : decode cX0_parse 69 = .ok (.aload_n 0, 1) := by decide +kernel
theorem dX0_parse_70 : decode cX0_parse 70 = .ok (.getfield 22, 3) := by decide +kernel
theorem dX0_parse_73 : decode cX0_parse 73 = .ok (.ireturn, 1) := by decide +kernel
theorem dX0_parse_74 : decode cX0_parse 74 = .ok (.aload_n 0, 1) := by decide +kernel
theorem dX0_parse_75 : decode cX0_parse 75 = .ok (.dup, 1) := by decide +kernel
theorem dX0_parse_76 : decode cX0_parse 76 = .ok (.getfield 22, 3) := by decide +kernel
theorem dX0_parse_79 : decode cX0_parse 79 = .ok (.iconst 1, 1) := by decide +kernel
theorem dX0_parse_80 : decode cX0_parse 80 = .ok (.iadd, 1) := by decide +kernel
theorem dX0_parse_81 : decode cX0_parse 81 = .ok (.putfield 22, 3) := by decide +kernel
theorem dX0_parse_84 : decode cX0_parse 84 = .ok (.iinc 1 1, 3) := by decide +kernel
theorem dX0_parse_87 : decode cX0_parse 87 = .ok (.goto (-75), 3) := by decide +kernel
theorem dX0_parse_90 : decode cX0_parse 90 = .ok (.aload_n 0, 1) := by decide +kernel
theorem dX0_parse_91 : decode cX0_parse 91 = .ok (.getfield 22, 3) := by decide +kernel
theorem dX0_parse_94 : decode cX0_parse 94 = .ok (.ireturn, 1) := by decide +kernel
theorem dX0_parseCommand_0 : decode cX0_parseCommand 0 = .ok (.aload_n 0, 1) := by decide +kernel
theorem dX0_parseCommand_1 : decode cX0_parseCommand 1 = .ok (.getfield 22, 3) := by decide +kernel
theorem dX0_parseCommand_4 : decode cX0_parseCommand 4 = .ok (.istore_n 2, 1) := by decide +kernel
theorem dX0_parseCommand_5 : decode cX0_parseCommand 5 = .ok (.iload_n 2, 1) := by decide +kernel
theorem dX0_parseCommand_6 : decode cX0_parseCommand 6 = .ok (.aload_n 0, 1) := by decide +kernel
theorem dX0_parseCommand_7 : decode cX0_parseCommand 7 = .ok (.getfield 33, 3) := by decide +kernel
theorem dX0_parseCommand_10 : decode cX0_parseCommand 10 = .ok (.if_icmp .ge 31, 3) := by decide +kernel
theorem dX0_parseCommand_13 : decode cX0_parseCommand 13 = .ok (.aload_n 0, 1) := by decide +kernel
theorem dX0_parseCommand_14 : decode cX0_parseCommand 14 = .ok (.getfield 9, 3) := by decide +kernel
theorem dX0_parseCommand_17 : decode cX0_parseCommand 17 = .ok (.iload_n 2, 1) := by decide +kernel
theorem dX0_parseCommand_18 : decode cX0_parseCommand 18 = .ok (.caload, 1) := by decide +kernel
theorem dX0_parseCommand_19 : decode cX0_parseCommand 19 = .ok (.bipush 97, 2) := by decide +kernel
theorem dX0_parseCommand_21 : decode cX0_parseCommand 21 = .ok (.if_icmp .lt 20, 3) := by decide +kernel
theorem dX0_parseCommand_24 : decode cX0_parseCommand 24 = .ok (.aload_n 0, 1) := by decide +kernel
theorem dX0_parseCommand_25 : decode cX0_parseCommand 25 = .ok (.getfield 9, 3) := by decide +kernel
theorem dX0_parseCommand_28 : decode cX0_parseCommand 28 = .ok (.iload_n 2, 1) := by decide +kernel
theorem dX0_parseCommand_29 : decode cX0_parseCommand 29 = .ok (.caload, 1) := by decide +kernel
theorem dX0_parseCommand_30 : decode cX0_parseCommand 30 = .ok (.bipush 122, 2) := by decide +kernel
theorem dX0_parseCommand_32 : decode cX0_parseCommand 32 = .ok (.if_icmp .gt 9, 3) := by decide +kernel
theorem dX0_parseCommand_35 : decode cX0_parseCommand 35 = .ok (.iinc 2 1, 3) := by decide +kernel
theorem dX0_parseCommand_38 : decode cX0_parseCommand 38 = .ok (.goto (-33), 3) := by decide +kernel
theorem dX0_parseCommand_41 : decode cX0_parseCommand 41 = .ok (.bipush (-2), 2) := by decide +kernel
theorem dX0_parseCommand_43 : decode cX0_parseCommand 43 = .ok (.istore_n 3, 1) := by decide +kernel
theorem dX0_parseCommand_44 : decode cX0_parseCommand 44 = .ok (.iconst 0, 1) := by decide +kernel
theorem dX0_parseCommand_45 : decode cX0_parseCommand 45 = .ok (.istore 4, 2) := by decide +kernel
theorem dX0_parseCommand_47 : decode cX0_parseCommand 47 = .ok (.iload 4, 2) := by decide +kernel
theorem dX0_parseCommand_49 : decode cX0_parseCommand 49 = .ok (.bipush 10, 2) := by decide +kernel
theorem dX0_parseCommand_51 : decode cX0_parseCommand 51 = .ok (.if_icmp .ge 25, 3) := by decide +kernel
theorem dX0_parseCommand_54 : decode cX0_parseCommand 54 = .ok (.aload_n 0, 1) := by decide +kernel
theorem dX0_parseCommand_55 : decode cX0_parseCommand 55 = .ok (.iload_n 2, 1) := by decide +kernel
theorem dX0_parseCommand_56 : decode cX0_parseCommand 56 = .ok (.iload 4, 2) := by decide +kernel
theorem dX0_parseCommand_58 : decode cX0_parseCommand 58 = .ok (.invokestatic 36, 3) := by decide +kernel
theorem dX0_parseCommand_61 : decode cX0_parseCommand 61 = .ok (.invokevirtual 40, 3) := by decide +kernel
theorem dX0_parseCommand_64 : decode cX0_parseCommand 64 = .ok (.ifCond .eq 6, 3) := by decide +kernel
theorem dX0_parseCommand_67 : decode cX0_parseCommand 67 = .ok (.iload 4, 2) := by decide +kernel
theorem dX0_parseCommand_69 : decode cX0_parseCommand 69 = .ok (.istore_n 3, 1) := by decide +kernel
theorem dX0_parseCommand_70 : decode cX0_parseCommand 70 = .ok (.iinc 4 1, 3) := by decide +kernel
theorem dX0_parseCommand_73 : decode cX0_parseCommand 73 = .ok (.goto (-26), 3) := by decide +kernel
theorem dX0_parseCommand_76 : decode cX0_parseCommand 76 = .ok (.iload_n 3, 1) := by decide +kernel
theorem dX0_parseCommand_77 : decode cX0_parseCommand 77 = .ok (.bipush (-2), 2) := by decide +kernel
theorem dX0_parseCommand_79 : decode cX0_parseCommand 79 = .ok (.if_icmp .ne 5, 3) := by decide +kernel
theorem dX0_parseCommand_82 : decode cX0_parseCommand 82 = .ok (.iconst 0, 1) := by decide +kernel
theorem dX0_parseCommand_83 : decode cX0_parseCommand 83 = .ok (.ireturn, 1) := by decide +kernel
theorem dX0_parseCommand_84 : decode cX0_parseCommand 84 = .ok (.aload_n 0, 1) := by decide +kernel
theorem dX0_parseCommand_85 : decode cX0_parseCommand 85 = .ok (.getfield 15, 3) := by decide +kernel
theorem dX0_parseCommand_88 : decode cX0_parseCommand 88 = .ok (.iload_n 1, 1) := by decide +kernel
theorem dX0_parseCommand_89 : decode cX0_parseCommand 89 = .ok (.iload_n 3, 1) := by decide +kernel
theorem dX0_parseCommand_90 : decode cX0_parseCommand 90 = .ok (.iastore, 1) := by decide +kernel
theorem dX0_parseCommand_91 : decode cX0_parseCommand 91 = .ok (.aload_n 0, 1) := by decide +kernel
theorem dX0_parseCommand_92 : decode cX0_parseCommand 92 = .ok (.iload_n 2, 1) := by decide +kernel
theorem dX0_parseCommand_93 : decode cX0_parseCommand 93 = .ok (.putfield 22, 3) := by decide +kernel
theorem dX0_parseCommand_96 : decode cX0_parseCommand 96 = .ok (.iconst 0, 1) := by decide +kernel
theorem dX0_parseCommand_97 : decode cX0_parseCommand 97 = .ok (.istore 4, 2) := by decide +kernel
theorem dX0_parseCommand_99 : decode cX0_parseCommand 99 = .ok (.iload 4, 2) := by decide +kernel
theorem dX0_parseCommand_101 : decode cX0_parseCommand 101 = .ok (.getstatic 44, 3) := by decide +kernel
theorem dX0_parseCommand_104 : decode cX0_parseCommand 104 = .ok (.iload_n 3, 1) := by decide +kernel
theorem dX0_parseCommand_105 : decode cX0_parseCommand 105 = .ok (.iaload, 1) := by decide +kernel
theorem dX0_parseCommand_106 : decode cX0_parseCommand 106 = .ok (.if_icmp .ge 24, 3) := by decide +kernel
theorem dX0_parseCommand_109 : decode cX0_parseCommand 109 = .ok (.aload_n 0, 1) := by decide +kernel
theorem dX0_parseCommand_110 : decode cX0_parseCommand 110 = .ok (.iload_n 1, 1) := by decide +kernel
theorem dX0_parseCommand_111 : decode cX0_parseCommand 111 = .ok (.iconst 4, 1) := by decide +kernel
theorem dX0_parseCommand_112 : decode cX0_parseCommand 112 = .ok (.imul, 1) := by decide +kernel
theorem dX0_parseCommand_113 : decode cX0_parseCommand 113 = .ok (.iload 4, 2) := by decide +kernel
theorem dX0_parseCommand_115 : decode cX0_parseCommand 115 = .ok (.iadd, 1) := by decide +kernel
theorem dX0_parseCommand_116 : decode cX0_parseCommand 116 = .ok (.invokevirtual 47, 3) := by decide +kernel
theorem dX0_parseCommand_119 : decode cX0_parseCommand 119 = .ok (.ifCond .ne 5, 3) := by decide +kernel
theorem dX0_parseCommand_122 : decode cX0_parseCommand 122 = .ok (.iconst 0, 1) := by decide +kernel
theorem dX0_parseCommand_123 : decode cX0_parseCommand 123 = .ok (.ireturn, 1) := by decide +kernel
theorem dX0_parseCommand_124 : decode cX0_parseCommand 124 = .ok (.iinc 4 1, 3) := by decide +kernel
theorem dX0_parseCommand_127 : decode cX0_parseCommand 127 = .ok (.goto (-28), 3) := by decide +kernel
theorem dX0_parseCommand_130 : decode cX0_parseCommand 130 = .ok (.iconst 1, 1) := by decide +kernel
theorem dX0_parseCommand_131 : decode cX0_parseCommand 131 = .ok (.ireturn, 1) := by decide +kernel
theorem dX0_hasWord_0 : decode cX0_hasWord 0 = .ok (.iload_n 1, 1) := by decide +kernel
theorem dX0_hasWord_1 : decode cX0_hasWord 1 = .ok (.aload_n 0, 1) := by decide +kernel
theorem dX0_hasWord_2 : decode cX0_hasWord 2 = .ok (.getfield 22, 3) := by decide +kernel
theorem dX0_hasWord_5 : decode cX0_hasWord 5 = .ok (.isub, 1) := by decide +kernel
theorem dX0_hasWord_6 : decode cX0_hasWord 6 = .ok (.aload_n 2, 1) := by decide +kernel
theorem dX0_hasWord_7 : decode cX0_hasWord 7 = .ok (.invokevirtual 50, 3) := by decide +kernel
theorem dX0_hasWord_10 : decode cX0_hasWord 10 = .ok (.if_icmp .eq 5, 3) := by decide +kernel
theorem dX0_hasWord_13 : decode cX0_hasWord 13 = .ok (.iconst 0, 1) := by decide +kernel
theorem dX0_hasWord_14 : decode cX0_hasWord 14 = .ok (.ireturn, 1) := by decide +kernel
theorem dX0_hasWord_15 : decode cX0_hasWord 15 = .ok (.iconst 0, 1) := by decide +kernel
theorem dX0_hasWord_16 : decode cX0_hasWord 16 = .ok (.istore_n 3, 1) := by decide +kernel
theorem dX0_hasWord_17 : decode cX0_hasWord 17 = .ok (.iload_n 3, 1) := by decide +kernel
theorem dX0_hasWord_18 : decode cX0_hasWord 18 = .ok (.aload_n 2, 1) := by decide +kernel
theorem dX0_hasWord_19 : decode cX0_hasWord 19 = .ok (.invokevirtual 50, 3) := by decide +kernel
theorem dX0_hasWord_22 : decode cX0_hasWord 22 = .ok (.if_icmp .ge 30, 3) := by decide +kernel
theorem dX0_hasWord_25 : decode cX0_hasWord 25 = .ok (.aload_n 0, 1) := by decide +kernel
theorem dX0_hasWord_26 : decode cX0_hasWord 26 = .ok (.getfield 9, 3) := by decide +kernel
theorem dX0_hasWord_29 : decode cX0_hasWord 29 = .ok (.aload_n 0, 1) := by decide +kernel
theorem dX0_hasWord_30 : decode cX0_hasWord 30 = .ok (.getfield 22, 3) := by decide +kernel
theorem dX0_hasWord_33 : decode cX0_hasWord 33 = .ok (.iload_n 3, 1) := by decide +kernel
theorem dX0_hasWord_34 : decode cX0_hasWord 34 = .ok (.iadd, 1) := by decide +kernel
theorem dX0_hasWord_35 : decode cX0_hasWord 35 = .ok (.caload, 1) := by decide +kernel
theorem dX0_hasWord_36 : decode cX0_hasWord 36 = .ok (.aload_n 2, 1) := by decide +kernel
theorem dX0_hasWord_37 : decode cX0_hasWord 37 = .ok (.iload_n 3, 1) := by decide +kernel
theorem dX0_hasWord_38 : decode cX0_hasWord 38 = .ok (.invokevirtual 55, 3) := by decide +kernel
theorem dX0_hasWord_41 : decode cX0_hasWord 41 = .ok (.if_icmp .eq 5, 3) := by decide +kernel
theorem dX0_hasWord_44 : decode cX0_hasWord 44 = .ok (.iconst 0, 1) := by decide +kernel
theorem dX0_hasWord_45 : decode cX0_hasWord 45 = .ok (.ireturn, 1) := by decide +kernel
theorem dX0_hasWord_46 : decode cX0_hasWord 46 = .ok (.iinc 3 1, 3) := by decide +kernel
theorem dX0_hasWord_49 : decode cX0_hasWord 49 = .ok (.goto (-32), 3) := by decide +kernel
theorem dX0_hasWord_52 : decode cX0_hasWord 52 = .ok (.iconst 1, 1) := by decide +kernel
theorem dX0_hasWord_53 : decode cX0_hasWord 53 = .ok (.ireturn, 1) := by decide +kernel
theorem dX0_wordOf_0 : decode cX0_wordOf 0 = .ok (.iload_n 0, 1) := by decide +kernel
theorem dX0_wordOf_1 : decode cX0_wordOf 1 = .ok (.tableswitch 78 0 8 #[51, 54, 57, 60, 63, 66, 69, 72, 75], 51) := by decide +kernel
theorem dX0_wordOf_52 : decode cX0_wordOf 52 = .ok (.ldc 59, 2) := by decide +kernel
theorem dX0_wordOf_54 : decode cX0_wordOf 54 = .ok (.areturn, 1) := by decide +kernel
theorem dX0_wordOf_55 : decode cX0_wordOf 55 = .ok (.ldc 61, 2) := by decide +kernel
theorem dX0_wordOf_57 : decode cX0_wordOf 57 = .ok (.areturn, 1) := by decide +kernel
theorem dX0_wordOf_58 : decode cX0_wordOf 58 = .ok (.ldc 63, 2) := by decide +kernel
theorem dX0_wordOf_60 : decode cX0_wordOf 60 = .ok (.areturn, 1) := by decide +kernel
theorem dX0_wordOf_61 : decode cX0_wordOf 61 = .ok (.ldc 65, 2) := by decide +kernel
theorem dX0_wordOf_63 : decode cX0_wordOf 63 = .ok (.areturn, 1) := by decide +kernel
theorem dX0_wordOf_64 : decode cX0_wordOf 64 = .ok (.ldc 67, 2) := by decide +kernel
theorem dX0_wordOf_66 : decode cX0_wordOf 66 = .ok (.areturn, 1) := by decide +kernel
theorem dX0_wordOf_67 : decode cX0_wordOf 67 = .ok (.ldc 69, 2) := by decide +kernel
theorem dX0_wordOf_69 : decode cX0_wordOf 69 = .ok (.areturn, 1) := by decide +kernel
theorem dX0_wordOf_70 : decode cX0_wordOf 70 = .ok (.ldc 71, 2) := by decide +kernel
theorem dX0_wordOf_72 : decode cX0_wordOf 72 = .ok (.areturn, 1) := by decide +kernel
theorem dX0_wordOf_73 : decode cX0_wordOf 73 = .ok (.ldc 73, 2) := by decide +kernel
theorem dX0_wordOf_75 : decode cX0_wordOf 75 = .ok (.areturn, 1) := by decide +kernel
theorem dX0_wordOf_76 : decode cX0_wordOf 76 = .ok (.ldc 75, 2) := by decide +kernel
theorem dX0_wordOf_78 : decode cX0_wordOf 78 = .ok (.areturn, 1) := by decide +kernel
theorem dX0_wordOf_79 : decode cX0_wordOf 79 = .ok (.ldc 77, 2) := by decide +kernel
theorem dX0_wordOf_81 : decode cX0_wordOf 81 = .ok (.areturn, 1) := by decide +kernel
theorem dX0_parseNumber_0 : decode cX0_parseNumber 0 = .ok (.aload_n 0, 1) := by decide +kernel
theorem dX0_parseNumber_1 : decode cX0_parseNumber 1 = .ok (.getfield 22, 3) := by decide +kernel
theorem dX0_parseNumber_4 : decode cX0_parseNumber 4 = .ok (.aload_n 0, 1) := by decide +kernel
theorem dX0_parseNumber_5 : decode cX0_parseNumber 5 = .ok (.getfield 33, 3) := by decide +kernel
theorem dX0_parseNumber_8 : decode cX0_parseNumber 8 = .ok (.if_icmp .ge 17, 3) := by decide +kernel
theorem dX0_parseNumber_11 : decode cX0_parseNumber 11 = .ok (.aload_n 0, 1) := by decide +kernel
theorem dX0_parseNumber_12 : decode cX0_parseNumber 12 = .ok (.getfield 9, 3) := by decide +kernel
theorem dX0_parseNumber_15 : decode cX0_parseNumber 15 = .ok (.aload_n 0, 1) := by decide +kernel
theorem dX0_parseNumber_16 : decode cX0_parseNumber 16 = .ok (.getfield 22, 3) := by decide +kernel
theorem dX0_parseNumber_19 : decode cX0_parseNumber 19 = .ok (.caload, 1) := by decide +kernel
theorem dX0_parseNumber_20 : decode cX0_parseNumber 20 = .ok (.bipush 32, 2) := by decide +kernel
theorem dX0_parseNumber_22 : decode cX0_parseNumber 22 = .ok (.if_icmp .eq 5, 3) := by decide +kernel
theorem dX0_parseNumber_25 : decode cX0_parseNumber 25 = .ok (.iconst 0, 1) := by decide +kernel
theorem dX0_parseNumber_26 : decode cX0_parseNumber 26 = .ok (.ireturn, 1) := by decide +kernel
theorem dX0_parseNumber_27 : decode cX0_parseNumber 27 = .ok (.aload_n 0, 1) := by decide +kernel
theorem dX0_parseNumber_28 : decode cX0_parseNumber 28 = .ok (.dup, 1) := by decide +kernel
theorem dX0_parseNumber_29 : decode cX0_parseNumber 29 = .ok (.getfield 22, 3) := by decide +kernel
theorem dX0_parseNumber_32 : decode cX0_parseNumber 32 = .ok (.iconst 1, 1) := by decide +kernel
theorem dX0_parseNumber_33 : decode cX0_parseNumber 33 = .ok (.iadd, 1) := by decide +kernel
theorem dX0_parseNumber_34 : decode cX0_parseNumber 34 = .ok (.putfield 22, 3) := by decide +kernel
theorem dX0_parseNumber_37 : decode cX0_parseNumber 37 = .ok (.iconst 0, 1) := by decide +kernel
theorem dX0_parseNumber_38 : decode cX0_parseNumber 38 = .ok (.istore_n 2, 1) := by decide +kernel
theorem dX0_parseNumber_39 : decode cX0_parseNumber 39 = .ok (.iconst 0, 1) := by decide +kernel
theorem dX0_parseNumber_40 : decode cX0_parseNumber 40 = .ok (.istore_n 3, 1) := by decide +kernel
theorem dX0_parseNumber_41 : decode cX0_parseNumber 41 = .ok (.iload_n 3, 1) := by decide +kernel
theorem dX0_parseNumber_42 : decode cX0_parseNumber 42 = .ok (.iconst 4, 1) := by decide +kernel
theorem dX0_parseNumber_43 : decode cX0_parseNumber 43 = .ok (.if_icmp .ge 76, 3) := by decide +kernel
theorem dX0_parseNumber_46 : decode cX0_parseNumber 46 = .ok (.aload_n 0, 1) := by decide +kernel
theorem dX0_parseNumber_47 : decode cX0_parseNumber 47 = .ok (.getfield 22, 3) := by decide +kernel
theorem dX0_parseNumber_50 : decode cX0_parseNumber 50 = .ok (.aload_n 0, 1) := by decide +kernel
theorem dX0_parseNumber_51 : decode cX0_parseNumber 51 = .ok (.getfield 33, 3) := by decide +kernel
theorem dX0_parseNumber_54 : decode cX0_parseNumber 54 = .ok (.if_icmp .ge 65, 3) := by decide +kernel
theorem dX0_parseNumber_57 : decode cX0_parseNumber 57 = .ok (.aload_n 0, 1) := by decide +kernel
theorem dX0_parseNumber_58 : decode cX0_parseNumber 58 = .ok (.getfield 9, 3) := by decide +kernel
theorem dX0_parseNumber_61 : decode cX0_parseNumber 61 = .ok (.aload_n 0, 1) := by decide +kernel
theorem dX0_parseNumber_62 : decode cX0_parseNumber 62 = .ok (.getfield 22, 3) := by decide +kernel
theorem dX0_parseNumber_65 : decode cX0_parseNumber 65 = .ok (.caload, 1) := by decide +kernel
theorem dX0_parseNumber_66 : decode cX0_parseNumber 66 = .ok (.bipush 48, 2) := by decide +kernel
theorem dX0_parseNumber_68 : decode cX0_parseNumber 68 = .ok (.if_icmp .lt 51, 3) := by decide +kernel
theorem dX0_parseNumber_71 : decode cX0_parseNumber 71 = .ok (.aload_n 0, 1) := by decide +kernel
theorem dX0_parseNumber_72 : decode cX0_parseNumber 72 = .ok (.getfield 9, 3) := by decide +kernel
theorem dX0_parseNumber_75 : decode cX0_parseNumber 75 = .ok (.aload_n 0, 1) := by decide +kernel
theorem dX0_parseNumber_76 : decode cX0_parseNumber 76 = .ok (.getfield 22, 3) := by decide +kernel
theorem dX0_parseNumber_79 : decode cX0_parseNumber 79 = .ok (.caload, 1) := by decide +kernel
theorem dX0_parseNumber_80 : decode cX0_parseNumber 80 = .ok (.bipush 57, 2) := by decide +kernel
theorem dX0_parseNumber_82 : decode cX0_parseNumber 82 = .ok (.if_icmp .gt 37, 3) := by decide +kernel
theorem dX0_parseNumber_85 : decode cX0_parseNumber 85 = .ok (.iload_n 2, 1) := by decide +kernel
theorem dX0_parseNumber_86 : decode cX0_parseNumber 86 = .ok (.bipush 10, 2) := by decide +kernel
theorem dX0_parseNumber_88 : decode cX0_parseNumber 88 = .ok (.imul, 1) := by decide +kernel
theorem dX0_parseNumber_89 : decode cX0_parseNumber 89 = .ok (.aload_n 0, 1) := by decide +kernel
theorem dX0_parseNumber_90 : decode cX0_parseNumber 90 = .ok (.getfield 9, 3) := by decide +kernel
theorem dX0_parseNumber_93 : decode cX0_parseNumber 93 = .ok (.aload_n 0, 1) := by decide +kernel
theorem dX0_parseNumber_94 : decode cX0_parseNumber 94 = .ok (.getfield 22, 3) := by decide +kernel
theorem dX0_parseNumber_97 : decode cX0_parseNumber 97 = .ok (.caload, 1) := by decide +kernel
theorem dX0_parseNumber_98 : decode cX0_parseNumber 98 = .ok (.bipush 48, 2) := by decide +kernel
theorem dX0_parseNumber_100 : decode cX0_parseNumber 100 = .ok (.isub, 1) := by decide +kernel
theorem dX0_parseNumber_101 : decode cX0_parseNumber 101 = .ok (.iadd, 1) := by decide +kernel
theorem dX0_parseNumber_102 : decode cX0_parseNumber 102 = .ok (.istore_n 2, 1) := by decide +kernel
theorem dX0_parseNumber_103 : decode cX0_parseNumber 103 = .ok (.aload_n 0, 1) := by decide +kernel
theorem dX0_parseNumber_104 : decode cX0_parseNumber 104 = .ok (.dup, 1) := by decide +kernel
theorem dX0_parseNumber_105 : decode cX0_parseNumber 105 = .ok (.getfield 22, 3) := by decide +kernel
theorem dX0_parseNumber_108 : decode cX0_parseNumber 108 = .ok (.iconst 1, 1) := by decide +kernel
theorem dX0_parseNumber_109 : decode cX0_parseNumber 109 = .ok (.iadd, 1) := by decide +kernel
theorem dX0_parseNumber_110 : decode cX0_parseNumber 110 = .ok (.putfield 22, 3) := by decide +kernel
theorem dX0_parseNumber_113 : decode cX0_parseNumber 113 = .ok (.iinc 3 1, 3) := by decide +kernel
theorem dX0_parseNumber_116 : decode cX0_parseNumber 116 = .ok (.goto (-75), 3) := by decide +kernel
theorem dX0_parseNumber_119 : decode cX0_parseNumber 119 = .ok (.aload_n 0, 1) := by decide +kernel
theorem dX0_parseNumber_120 : decode cX0_parseNumber 120 = .ok (.getfield 19, 3) := by decide +kernel
theorem dX0_parseNumber_123 : decode cX0_parseNumber 123 = .ok (.iload_n 1, 1) := by decide +kernel
theorem dX0_parseNumber_124 : decode cX0_parseNumber 124 = .ok (.iload_n 2, 1) := by decide +kernel
theorem dX0_parseNumber_125 : decode cX0_parseNumber 125 = .ok (.iastore, 1) := by decide +kernel
theorem dX0_parseNumber_126 : decode cX0_parseNumber 126 = .ok (.iload_n 3, 1) := by decide +kernel
theorem dX0_parseNumber_127 : decode cX0_parseNumber 127 = .ok (.ifCond .le 7, 3) := by decide +kernel
theorem dX0_parseNumber_130 : decode cX0_parseNumber 130 = .ok (.iconst 1, 1) := by decide +kernel
theorem dX0_parseNumber_131 : decode cX0_parseNumber 131 = .ok (.goto 4, 3) := by decide +kernel
theorem dX0_parseNumber_134 : decode cX0_parseNumber 134 = .ok (.iconst 0, 1) := by decide +kernel
theorem dX0_parseNumber_135 : decode cX0_parseNumber 135 = .ok (.ireturn, 1) := by decide +kernel
theorem dX1_init_0 : decode cX1_init 0 = .ok (.aload_n 0, 1) := by decide +kernel
theorem dX1_init_1 : decode cX1_init 1 = .ok (.invokespecial 3, 3) := by decide +kernel
theorem dX1_init_4 : decode cX1_init 4 = .ok (.aload_n 0, 1) := by decide +kernel
theorem dX1_init_5 : decode cX1_init 5 = .ok (.bipush 8, 2) := by decide +kernel
theorem dX1_init_7 : decode cX1_init 7 = .ok (.anewarray 9, 3) := by decide +kernel
theorem dX1_init_10 : decode cX1_init 10 = .ok (.putfield 11, 3) := by decide +kernel
theorem dX1_init_13 : decode cX1_init 13 = .ok (.iconst 0, 1) := by decide +kernel
theorem dX1_init_14 : decode cX1_init 14 = .ok (.istore_n 1, 1) := by decide +kernel
theorem dX1_init_15 : decode cX1_init 15 = .ok (.iload_n 1, 1) := by decide +kernel
theorem dX1_init_16 : decode cX1_init 16 = .ok (.bipush 8, 2) := by decide +kernel
theorem dX1_init_18 : decode cX1_init 18 = .ok (.if_icmp .ge 22, 3) := by decide +kernel
theorem dX1_init_21 : decode cX1_init 21 = .ok (.aload_n 0, 1) := by decide +kernel
theorem dX1_init_22 : decode cX1_init 22 = .ok (.getfield 11, 3) := by decide +kernel
theorem dX1_init_25 : decode cX1_init 25 = .ok (.iload_n 1, 1) := by decide +kernel
theorem dX1_init_26 : decode cX1_init 26 = .ok (.new 9, 3) := by decide +kernel
theorem dX1_init_29 : decode cX1_init 29 = .ok (.dup, 1) := by decide +kernel
theorem dX1_init_30 : decode cX1_init 30 = .ok (.invokespecial 17, 3) := by decide +kernel
theorem dX1_init_33 : decode cX1_init 33 = .ok (.aastore, 1) := by decide +kernel
theorem dX1_init_34 : decode cX1_init 34 = .ok (.iinc 1 1, 3) := by decide +kernel
theorem dX1_init_37 : decode cX1_init 37 = .ok (.goto (-22), 3) := by decide +kernel
theorem dX1_init_40 : decode cX1_init 40 = .ok (.return_, 1) := by decide +kernel
theorem dX1_remember_0 : decode cX1_remember 0 = .ok (.aload_n 0, 1) := by decide +kernel
theorem dX1_remember_1 : decode cX1_remember 1 = .ok (.getfield 11, 3) := by decide +kernel
theorem dX1_remember_4 : decode cX1_remember 4 = .ok (.aload_n 0, 1) := by decide +kernel
theorem dX1_remember_5 : decode cX1_remember 5 = .ok (.getfield 18, 3) := by decide +kernel
theorem dX1_remember_8 : decode cX1_remember 8 = .ok (.aaload, 1) := by decide +kernel
theorem dX1_remember_9 : decode cX1_remember 9 = .ok (.aload_n 1, 1) := by decide +kernel
theorem dX1_remember_10 : decode cX1_remember 10 = .ok (.invokevirtual 22, 3) := by decide +kernel
theorem dX1_remember_13 : decode cX1_remember 13 = .ok (.aload_n 0, 1) := by decide +kernel
theorem dX1_remember_14 : decode cX1_remember 14 = .ok (.aload_n 0, 1) := by decide +kernel
theorem dX1_remember_15 : decode cX1_remember 15 = .ok (.getfield 18, 3) := by decide +kernel
theorem dX1_remember_18 : decode cX1_remember 18 = .ok (.iconst 1, 1) := by decide +kernel
theorem dX1_remember_19 : decode cX1_remember 19 = .ok (.iadd, 1) := by decide +kernel
theorem dX1_remember_20 : decode cX1_remember 20 = .ok (.bipush 8, 2) := by decide +kernel
theorem dX1_remember_22 : decode cX1_remember 22 = .ok (.irem, 1) := by decide +kernel
theorem dX1_remember_23 : decode cX1_remember 23 = .ok (.putfield 18, 3) := by decide +kernel
theorem dX1_remember_26 : decode cX1_remember 26 = .ok (.aload_n 0, 1) := by decide +kernel
theorem dX1_remember_27 : decode cX1_remember 27 = .ok (.getfield 26, 3) := by decide +kernel
theorem dX1_remember_30 : decode cX1_remember 30 = .ok (.bipush 8, 2) := by decide +kernel
theorem dX1_remember_32 : decode cX1_remember 32 = .ok (.if_icmp .ge 13, 3) := by decide +kernel
theorem dX1_remember_35 : decode cX1_remember 35 = .ok (.aload_n 0, 1) := by decide +kernel
theorem dX1_remember_36 : decode cX1_remember 36 = .ok (.dup, 1) := by decide +kernel
theorem dX1_remember_37 : decode cX1_remember 37 = .ok (.getfield 26, 3) := by decide +kernel
theorem dX1_remember_40 : decode cX1_remember 40 = .ok (.iconst 1, 1) := by decide +kernel
theorem dX1_remember_41 : decode cX1_remember 41 = .ok (.iadd, 1) := by decide +kernel
theorem dX1_remember_42 : decode cX1_remember 42 = .ok (.putfield 26, 3) := by decide +kernel
theorem dX1_remember_45 : decode cX1_remember 45 = .ok (.return_, 1) := by decide +kernel
theorem dX1_takeBack_0 : decode cX1_takeBack 0 = .ok (.aload_n 0, 1) := by decide +kernel
theorem dX1_takeBack_1 : decode cX1_takeBack 1 = .ok (.getfield 26, 3) := by decide +kernel
theorem dX1_takeBack_4 : decode cX1_takeBack 4 = .ok (.ifCond .ne 6, 3) := by decide +kernel
theorem dX1_takeBack_7 : decode cX1_takeBack 7 = .ok (.bipush (-2), 2) := by decide +kernel
theorem dX1_takeBack_9 : decode cX1_takeBack 9 = .ok (.ireturn, 1) := by decide +kernel
theorem dX1_takeBack_10 : decode cX1_takeBack 10 = .ok (.aload_n 0, 1) := by decide +kernel
theorem dX1_takeBack_11 : decode cX1_takeBack 11 = .ok (.aload_n 0, 1) := by decide +kernel
theorem dX1_takeBack_12 : decode cX1_takeBack 12 = .ok (.getfield 18, 3) := by decide +kernel
theorem dX1_takeBack_15 : decode cX1_takeBack 15 = .ok (.bipush 8, 2) := by decide +kernel
theorem dX1_takeBack_17 : decode cX1_takeBack 17 = .ok (.iadd, 1) := by decide +kernel
theorem dX1_takeBack_18 : decode cX1_takeBack 18 = .ok (.iconst 1, 1) := by decide +kernel
theorem dX1_takeBack_19 : decode cX1_takeBack 19 = .ok (.isub, 1) := by decide +kernel
theorem dX1_takeBack_20 : decode cX1_takeBack 20 = .ok (.bipush 8, 2) := by decide +kernel
theorem dX1_takeBack_22 : decode cX1_takeBack 22 = .ok (.irem, 1) := by decide +kernel
theorem dX1_takeBack_23 : decode cX1_takeBack 23 = .ok (.putfield 18, 3) := by decide +kernel
theorem dX1_takeBack_26 : decode cX1_takeBack 26 = .ok (.aload_n 1, 1) := by decide +kernel
theorem dX1_takeBack_27 : decode cX1_takeBack 27 = .ok (.aload_n 0, 1) := by decide +kernel
theorem dX1_takeBack_28 : decode cX1_takeBack 28 = .ok (.getfield 11, 3) := by decide +kernel
theorem dX1_takeBack_31 : decode cX1_takeBack 31 = .ok (.aload_n 0, 1) := by decide +kernel
theorem dX1_takeBack_32 : decode cX1_takeBack 32 = .ok (.getfield 18, 3) := by decide +kernel
theorem dX1_takeBack_35 : decode cX1_takeBack 35 = .ok (.aaload, 1) := by decide +kernel
theorem dX1_takeBack_36 : decode cX1_takeBack 36 = .ok (.invokevirtual 22, 3) := by decide +kernel
theorem dX1_takeBack_39 : decode cX1_takeBack 39 = .ok (.aload_n 0, 1) := by decide +kernel
theorem dX1_takeBack_40 : decode cX1_takeBack 40 = .ok (.dup, 1) := by decide +kernel
theorem dX1_takeBack_41 : decode cX1_takeBack 41 = .ok (.getfield 26, 3) := by decide +kernel
theorem dX1_takeBack_44 : decode cX1_takeBack 44 = .ok (.iconst 1, 1) := by decide +kernel
theorem dX1_takeBack_45 : decode cX1_takeBack 45 = .ok (.isub, 1) := by decide +kernel
theorem dX1_takeBack_46 : decode cX1_takeBack 46 = .ok (.putfield 26, 3) := by decide +kernel
theorem dX1_takeBack_49 : decode cX1_takeBack 49 = .ok (.aload_n 0, 1) := by decide +kernel
theorem dX1_takeBack_50 : decode cX1_takeBack 50 = .ok (.getfield 26, 3) := by decide +kernel
theorem dX1_takeBack_53 : decode cX1_takeBack 53 = .ok (.ireturn, 1) := by decide +kernel
theorem dX2_init_0 : decode cX2_init 0 = .ok (.aload_n 0, 1) := by decide +kernel
theorem dX2_init_1 : decode cX2_init 1 = .ok (.invokespecial 3, 3) := by decide +kernel
theorem dX2_init_4 : decode cX2_init 4 = .ok (.aload_n 0, 1) := by decide +kernel
theorem dX2_init_5 : decode cX2_init 5 = .ok (.bipush (-2), 2) := by decide +kernel
theorem dX2_init_7 : decode cX2_init 7 = .ok (.putfield 9, 3) := by decide +kernel
theorem dX2_init_10 : decode cX2_init 10 = .ok (.aload_n 0, 1) := by decide +kernel
theorem dX2_init_11 : decode cX2_init 11 = .ok (.bipush (-2), 2) := by decide +kernel
theorem dX2_init_13 : decode cX2_init 13 = .ok (.putfield 15, 3) := by decide +kernel
theorem dX2_init_16 : decode cX2_init 16 = .ok (.return_, 1) := by decide +kernel
theorem dX2_isWorseThan_0 : decode cX2_isWorseThan 0 = .ok (.aload_n 0, 1) := by decide +kernel
theorem dX2_isWorseThan_1 : decode cX2_isWorseThan 1 = .ok (.getfield 9, 3) := by decide +kernel
theorem dX2_isWorseThan_4 : decode cX2_isWorseThan 4 = .ok (.bipush (-2), 2) := by decide +kernel
theorem dX2_isWorseThan_6 : decode cX2_isWorseThan 6 = .ok (.if_icmp .eq 27, 3) := by decide +kernel
theorem dX2_isWorseThan_9 : decode cX2_isWorseThan 9 = .ok (.iload_n 1, 1) := by decide +kernel
theorem dX2_isWorseThan_10 : decode cX2_isWorseThan 10 = .ok (.aload_n 0, 1) := by decide +kernel
theorem dX2_isWorseThan_11 : decode cX2_isWorseThan 11 = .ok (.getfield 18, 3) := by decide +kernel
theorem dX2_isWorseThan_14 : decode cX2_isWorseThan 14 = .ok (.if_icmp .lt 19, 3) := by decide +kernel
theorem dX2_isWorseThan_17 : decode cX2_isWorseThan 17 = .ok (.iload_n 1, 1) := by decide +kernel
theorem dX2_isWorseThan_18 : decode cX2_isWorseThan 18 = .ok (.aload_n 0, 1) := by decide +kernel
theorem dX2_isWorseThan_19 : decode cX2_isWorseThan 19 = .ok (.getfield 18, 3) := by decide +kernel
theorem dX2_isWorseThan_22 : decode cX2_isWorseThan 22 = .ok (.if_icmp .ne 15, 3) := by decide +kernel
theorem dX2_isWorseThan_25 : decode cX2_isWorseThan 25 = .ok (.iload_n 2, 1) := by decide +kernel
theorem dX2_isWorseThan_26 : decode cX2_isWorseThan 26 = .ok (.aload_n 0, 1) := by decide +kernel
theorem dX2_isWorseThan_27 : decode cX2_isWorseThan 27 = .ok (.getfield 21, 3) := by decide +kernel
theorem dX2_isWorseThan_30 : decode cX2_isWorseThan 30 = .ok (.if_icmp .ge 7, 3) := by decide +kernel
theorem dX2_isWorseThan_33 : decode cX2_isWorseThan 33 = .ok (.iconst 1, 1) := by decide +kernel
theorem dX2_isWorseThan_34 : decode cX2_isWorseThan 34 = .ok (.goto 4, 3) := by decide +kernel
theorem dX2_isWorseThan_37 : decode cX2_isWorseThan 37 = .ok (.iconst 0, 1) := by decide +kernel
theorem dX2_isWorseThan_38 : decode cX2_isWorseThan 38 = .ok (.ireturn, 1) := by decide +kernel
theorem dX2_set_0 : decode cX2_set 0 = .ok (.aload_n 0, 1) := by decide +kernel
theorem dX2_set_1 : decode cX2_set 1 = .ok (.iload_n 1, 1) := by decide +kernel
theorem dX2_set_2 : decode cX2_set 2 = .ok (.putfield 9, 3) := by decide +kernel
theorem dX2_set_5 : decode cX2_set 5 = .ok (.aload_n 0, 1) := by decide +kernel
theorem dX2_set_6 : decode cX2_set 6 = .ok (.iload_n 2, 1) := by decide +kernel
theorem dX2_set_7 : decode cX2_set 7 = .ok (.putfield 15, 3) := by decide +kernel
theorem dX2_set_10 : decode cX2_set 10 = .ok (.aload_n 0, 1) := by decide +kernel
theorem dX2_set_11 : decode cX2_set 11 = .ok (.iload_n 3, 1) := by decide +kernel
theorem dX2_set_12 : decode cX2_set 12 = .ok (.putfield 18, 3) := by decide +kernel
theorem dX2_set_15 : decode cX2_set 15 = .ok (.aload_n 0, 1) := by decide +kernel
theorem dX2_set_16 : decode cX2_set 16 = .ok (.iload 4, 2) := by decide +kernel
theorem dX2_set_18 : decode cX2_set 18 = .ok (.putfield 21, 3) := by decide +kernel
theorem dX2_set_21 : decode cX2_set 21 = .ok (.return_, 1) := by decide +kernel
theorem dX3_init_0 : decode cX3_init 0 = .ok (.aload_n 0, 1) := by decide +kernel
theorem dX3_init_1 : decode cX3_init 1 = .ok (.invokespecial 3, 3) := by decide +kernel
theorem dX3_init_4 : decode cX3_init 4 = .ok (.aload_n 0, 1) := by decide +kernel
theorem dX3_init_5 : decode cX3_init 5 = .ok (.bipush 24, 2) := by decide +kernel
theorem dX3_init_7 : decode cX3_init 7 = .ok (.newarray .int, 2) := by decide +kernel
theorem dX3_init_9 : decode cX3_init 9 = .ok (.putfield 9, 3) := by decide +kernel
theorem dX3_init_12 : decode cX3_init 12 = .ok (.aload_n 0, 1) := by decide +kernel
theorem dX3_init_13 : decode cX3_init 13 = .ok (.bipush 24, 2) := by decide +kernel
theorem dX3_init_15 : decode cX3_init 15 = .ok (.newarray .int, 2) := by decide +kernel
theorem dX3_init_17 : decode cX3_init 17 = .ok (.putfield 15, 3) := by decide +kernel
theorem dX3_init_20 : decode cX3_init 20 = .ok (.aload_n 0, 1) := by decide +kernel
theorem dX3_init_21 : decode cX3_init 21 = .ok (.bipush 24, 2) := by decide +kernel
theorem dX3_init_23 : decode cX3_init 23 = .ok (.newarray .int, 2) := by decide +kernel
theorem dX3_init_25 : decode cX3_init 25 = .ok (.putfield 18, 3) := by decide +kernel
theorem dX3_init_28 : decode cX3_init 28 = .ok (.aload_n 0, 1) := by decide +kernel
theorem dX3_init_29 : decode cX3_init 29 = .ok (.bipush 24, 2) := by decide +kernel
theorem dX3_init_31 : decode cX3_init 31 = .ok (.newarray .int, 2) := by decide +kernel
theorem dX3_init_33 : decode cX3_init 33 = .ok (.putfield 21, 3) := by decide +kernel
theorem dX3_init_36 : decode cX3_init 36 = .ok (.aload_n 0, 1) := by decide +kernel
theorem dX3_init_37 : decode cX3_init 37 = .ok (.bipush 24, 2) := by decide +kernel
theorem dX3_init_39 : decode cX3_init 39 = .ok (.newarray .int, 2) := by decide +kernel
theorem dX3_init_41 : decode cX3_init 41 = .ok (.putfield 24, 3) := by decide +kernel
theorem dX3_init_44 : decode cX3_init 44 = .ok (.aload_n 0, 1) := by decide +kernel
theorem dX3_init_45 : decode cX3_init 45 = .ok (.bipush 24, 2) := by decide +kernel
theorem dX3_init_47 : decode cX3_init 47 = .ok (.newarray .int, 2) := by decide +kernel
theorem dX3_init_49 : decode cX3_init 49 = .ok (.putfield 27, 3) := by decide +kernel
theorem dX3_init_52 : decode cX3_init 52 = .ok (.aload_n 0, 1) := by decide +kernel
theorem dX3_init_53 : decode cX3_init 53 = .ok (.bipush 6, 2) := by decide +kernel
theorem dX3_init_55 : decode cX3_init 55 = .ok (.newarray .int, 2) := by decide +kernel
theorem dX3_init_57 : decode cX3_init 57 = .ok (.putfield 30, 3) := by decide +kernel
theorem dX3_init_60 : decode cX3_init 60 = .ok (.aload_n 0, 1) := by decide +kernel
theorem dX3_init_61 : decode cX3_init 61 = .ok (.bipush 6, 2) := by decide +kernel
theorem dX3_init_63 : decode cX3_init 63 = .ok (.newarray .int, 2) := by decide +kernel
theorem dX3_init_65 : decode cX3_init 65 = .ok (.putfield 33, 3) := by decide +kernel
theorem dX3_init_68 : decode cX3_init 68 = .ok (.aload_n 0, 1) := by decide +kernel
theorem dX3_init_69 : decode cX3_init 69 = .ok (.bipush 6, 2) := by decide +kernel
theorem dX3_init_71 : decode cX3_init 71 = .ok (.newarray .int, 2) := by decide +kernel
theorem dX3_init_73 : decode cX3_init 73 = .ok (.putfield 36, 3) := by decide +kernel
theorem dX3_init_76 : decode cX3_init 76 = .ok (.aload_n 0, 1) := by decide +kernel
theorem dX3_init_77 : decode cX3_init 77 = .ok (.bipush 6, 2) := by decide +kernel
theorem dX3_init_79 : decode cX3_init 79 = .ok (.bipush 24, 2) := by decide +kernel
theorem dX3_init_81 : decode cX3_init 81 = .ok (.multianewarray 39 2, 4) := by decide +kernel
theorem dX3_init_85 : decode cX3_init 85 = .ok (.putfield 41, 3) := by decide +kernel
theorem dX3_init_88 : decode cX3_init 88 = .ok (.aload_n 0, 1) := by decide +kernel
theorem dX3_init_89 : decode cX3_init 89 = .ok (.bipush 8, 2) := by decide +kernel
theorem dX3_init_91 : decode cX3_init 91 = .ok (.newarray .int, 2) := by decide +kernel
theorem dX3_init_93 : decode cX3_init 93 = .ok (.putfield 44, 3) := by decide +kernel
theorem dX3_init_96 : decode cX3_init 96 = .ok (.getstatic 47, 3) := by decide +kernel
theorem dX3_init_99 : decode cX3_init 99 = .ok (.iconst 0, 1) := by decide +kernel
theorem dX3_init_100 : decode cX3_init 100 = .ok (.aload_n 0, 1) := by decide +kernel
theorem dX3_init_101 : decode cX3_init 101 = .ok (.getfield 44, 3) := by decide +kernel
theorem dX3_init_104 : decode cX3_init 104 = .ok (.iconst 0, 1) := by decide +kernel
theorem dX3_init_105 : decode cX3_init 105 = .ok (.bipush 8, 2) := by decide +kernel
theorem dX3_init_107 : decode cX3_init 107 = .ok (.invokestatic 50, 3) := by decide +kernel
theorem dX3_init_110 : decode cX3_init 110 = .ok (.return_, 1) := by decide +kernel
theorem dX3_copyFrom_0 : decode cX3_copyFrom 0 = .ok (.aload_n 0, 1) := by decide +kernel
theorem dX3_copyFrom_1 : decode cX3_copyFrom 1 = .ok (.aload_n 1, 1) := by decide +kernel
theorem dX3_copyFrom_2 : decode cX3_copyFrom 2 = .ok (.getfield 56, 3) := by decide +kernel
theorem dX3_copyFrom_5 : decode cX3_copyFrom 5 = .ok (.putfield 56, 3) := by decide +kernel
theorem dX3_copyFrom_8 : decode cX3_copyFrom 8 = .ok (.aload_n 1, 1) := by decide +kernel
theorem dX3_copyFrom_9 : decode cX3_copyFrom 9 = .ok (.getfield 9, 3) := by decide +kernel
theorem dX3_copyFrom_12 : decode cX3_copyFrom 12 = .ok (.iconst 0, 1) := by decide +kernel
theorem dX3_copyFrom_13 : decode cX3_copyFrom 13 = .ok (.aload_n 0, 1) := by decide +kernel
theorem dX3_copyFrom_14 : decode cX3_copyFrom 14 = .ok (.getfield 9, 3) := by decide +kernel
theorem dX3_copyFrom_17 : decode cX3_copyFrom 17 = .ok (.iconst 0, 1) := by decide +kernel
theorem dX3_copyFrom_18 : decode cX3_copyFrom 18 = .ok (.bipush 24, 2) := by decide +kernel
theorem dX3_copyFrom_20 : decode cX3_copyFrom 20 = .ok (.invokestatic 50, 3) := by decide +kernel
theorem dX3_copyFrom_23 : decode cX3_copyFrom 23 = .ok (.aload_n 1, 1) := by decide +kernel
theorem dX3_copyFrom_24 : decode cX3_copyFrom 24 = .ok (.getfield 15, 3) := by decide +kernel
theorem dX3_copyFrom_27 : decode cX3_copyFrom 27 = .ok (.iconst 0, 1) := by decide +kernel
theorem dX3_copyFrom_28 : decode cX3_copyFrom 28 = .ok (.aload_n 0, 1) := by decide +kernel
theorem dX3_copyFrom_29 : decode cX3_copyFrom 29 = .ok (.getfield 15, 3) := by decide +kernel
theorem dX3_copyFrom_32 : decode cX3_copyFrom 32 = .ok (.iconst 0, 1) := by decide +kernel
theorem dX3_copyFrom_33 : decode cX3_copyFrom 33 = .ok (.bipush 24, 2) := by decide +kernel
theorem dX3_copyFrom_35 : decode cX3_copyFrom 35 = .ok (.invokestatic 50, 3) := by decide +kernel
theorem dX3_copyFrom_38 : decode cX3_copyFrom 38 = .ok (.aload_n 1, 1) := by decide +kernel
theorem dX3_copyFrom_39 : decode cX3_copyFrom 39 = .ok (.getfield 18, 3) := by decide +kernel
theorem dX3_copyFrom_42 : decode cX3_copyFrom 42 = .ok (.iconst 0, 1) := by decide +kernel
theorem dX3_copyFrom_43 : decode cX3_copyFrom 43 = .ok (.aload_n 0, 1) := by decide +kernel
theorem dX3_copyFrom_44 : decode cX3_copyFrom 44 = .ok (.getfield 18, 3) := by decide +kernel
theorem dX3_copyFrom_47 : decode cX3_copyFrom 47 = .ok (.iconst 0, 1) := by decide +kernel
theorem dX3_copyFrom_48 : decode cX3_copyFrom 48 = .ok (.bipush 24, 2) := by decide +kernel
theorem dX3_copyFrom_50 : decode cX3_copyFrom 50 = .ok (.invokestatic 50, 3) := by decide +kernel
theorem dX3_copyFrom_53 : decode cX3_copyFrom 53 = .ok (.aload_n 1, 1) := by decide +kernel
theorem dX3_copyFrom_54 : decode cX3_copyFrom 54 = .ok (.getfield 21, 3) := by decide +kernel
theorem dX3_copyFrom_57 : decode cX3_copyFrom 57 = .ok (.iconst 0, 1) := by decide +kernel
theorem dX3_copyFrom_58 : decode cX3_copyFrom 58 = .ok (.aload_n 0, 1) := by decide +kernel
theorem dX3_copyFrom_59 : decode cX3_copyFrom 59 = .ok (.getfield 21, 3) := by decide +kernel
theorem dX3_copyFrom_62 : decode cX3_copyFrom 62 = .ok (.iconst 0, 1) := by decide +kernel
theorem dX3_copyFrom_63 : decode cX3_copyFrom 63 = .ok (.bipush 24, 2) := by decide +kernel
theorem dX3_copyFrom_65 : decode cX3_copyFrom 65 = .ok (.invokestatic 50, 3) := by decide +kernel
theorem dX3_copyFrom_68 : decode cX3_copyFrom 68 = .ok (.aload_n 1, 1) := by decide +kernel
theorem dX3_copyFrom_69 : decode cX3_copyFrom 69 = .ok (.getfield 24, 3) := by decide +kernel
theorem dX3_copyFrom_72 : decode cX3_copyFrom 72 = .ok (.iconst 0, 1) := by decide +kernel
theorem dX3_copyFrom_73 : decode cX3_copyFrom 73 = .ok (.aload_n 0, 1) := by decide +kernel
theorem dX3_copyFrom_74 : decode cX3_copyFrom 74 = .ok (.getfield 24, 3) := by decide +kernel
theorem dX3_copyFrom_77 : decode cX3_copyFrom 77 = .ok (.iconst 0, 1) := by decide +kernel
theorem dX3_copyFrom_78 : decode cX3_copyFrom 78 = .ok (.bipush 24, 2) := by decide +kernel
theorem dX3_copyFrom_80 : decode cX3_copyFrom 80 = .ok (.invokestatic 50, 3) := by decide +kernel
theorem dX3_copyFrom_83 : decode cX3_copyFrom 83 = .ok (.aload_n 1, 1) := by decide +kernel
theorem dX3_copyFrom_84 : decode cX3_copyFrom 84 = .ok (.getfield 27, 3) := by decide +kernel
theorem dX3_copyFrom_87 : decode cX3_copyFrom 87 = .ok (.iconst 0, 1) := by decide +kernel
theorem dX3_copyFrom_88 : decode cX3_copyFrom 88 = .ok (.aload_n 0, 1) := by decide +kernel
theorem dX3_copyFrom_89 : decode cX3_copyFrom 89 = .ok (.getfield 27, 3) := by decide +kernel
theorem dX3_copyFrom_92 : decode cX3_copyFrom 92 = .ok (.iconst 0, 1) := by decide +kernel
theorem dX3_copyFrom_93 : decode cX3_copyFrom 93 = .ok (.bipush 24, 2) := by decide +kernel
theorem dX3_copyFrom_95 : decode cX3_copyFrom 95 = .ok (.invokestatic 50, 3) := by decide +kernel
theorem dX3_copyFrom_98 : decode cX3_copyFrom 98 = .ok (.aload_n 0, 1) := by decide +kernel
theorem dX3_copyFrom_99 : decode cX3_copyFrom 99 = .ok (.aload_n 1, 1) := by decide +kernel
theorem dX3_copyFrom_100 : decode cX3_copyFrom 100 = .ok (.getfield 60, 3) := by decide +kernel
theorem dX3_copyFrom_103 : decode cX3_copyFrom 103 = .ok (.putfield 60, 3) := by decide +kernel
theorem dX3_copyFrom_106 : decode cX3_copyFrom 106 = .ok (.aload_n 1, 1) := by decide +kernel
theorem dX3_copyFrom_107 : decode cX3_copyFrom 107 = .ok (.getfield 30, 3) := by decide +kernel
theorem dX3_copyFrom_110 : decode cX3_copyFrom 110 = .ok (.iconst 0, 1) := by decide +kernel
theorem dX3_copyFrom_111 : decode cX3_copyFrom 111 = .ok (.aload_n 0, 1) := by decide +kernel
theorem dX3_copyFrom_112 : decode cX3_copyFrom 112 = .ok (.getfield 30, 3) := by decide +kernel
theorem dX3_copyFrom_115 : decode cX3_copyFrom 115 = .ok (.iconst 0, 1) := by decide +kernel
theorem dX3_copyFrom_116 : decode cX3_copyFrom 116 = .ok (.bipush 6, 2) := by decide +kernel
theorem dX3_copyFrom_118 : decode cX3_copyFrom 118 = .ok (.invokestatic 50, 3) := by decide +kernel
theorem dX3_copyFrom_121 : decode cX3_copyFrom 121 = .ok (.aload_n 1, 1) := by decide +kernel
theorem dX3_copyFrom_122 : decode cX3_copyFrom 122 = .ok (.getfield 33, 3) := by decide +kernel
theorem dX3_copyFrom_125 : decode cX3_copyFrom 125 = .ok (.iconst 0, 1) := by decide +kernel
theorem dX3_copyFrom_126 : decode cX3_copyFrom 126 = .ok (.aload_n 0, 1) := by decide +kernel
theorem dX3_copyFrom_127 : decode cX3_copyFrom 127 = .ok (.getfield 33, 3) := by decide +kernel
theorem dX3_copyFrom_130 : decode cX3_copyFrom 130 = .ok (.iconst 0, 1) := by decide +kernel
theorem dX3_copyFrom_131 : decode cX3_copyFrom 131 = .ok (.bipush 6, 2) := by decide +kernel
theorem dX3_copyFrom_133 : decode cX3_copyFrom 133 = .ok (.invokestatic 50, 3) := by decide +kernel
theorem dX3_copyFrom_136 : decode cX3_copyFrom 136 = .ok (.aload_n 1, 1) := by decide +kernel
theorem dX3_copyFrom_137 : decode cX3_copyFrom 137 = .ok (.getfield 36, 3) := by decide +kernel
theorem dX3_copyFrom_140 : decode cX3_copyFrom 140 = .ok (.iconst 0, 1) := by decide +kernel
theorem dX3_copyFrom_141 : decode cX3_copyFrom 141 = .ok (.aload_n 0, 1) := by decide +kernel
theorem dX3_copyFrom_142 : decode cX3_copyFrom 142 = .ok (.getfield 36, 3) := by decide +kernel
theorem dX3_copyFrom_145 : decode cX3_copyFrom 145 = .ok (.iconst 0, 1) := by decide +kernel
theorem dX3_copyFrom_146 : decode cX3_copyFrom 146 = .ok (.bipush 6, 2) := by decide +kernel
theorem dX3_copyFrom_148 : decode cX3_copyFrom 148 = .ok (.invokestatic 50, 3) := by decide +kernel
theorem dX3_copyFrom_151 : decode cX3_copyFrom 151 = .ok (.iconst 0, 1) := by decide +kernel
theorem dX3_copyFrom_152 : decode cX3_copyFrom 152 = .ok (.istore_n 2, 1) := by decide +kernel
theorem dX3_copyFrom_153 : decode cX3_copyFrom 153 = .ok (.iload_n 2, 1) := by decide +kernel
theorem dX3_copyFrom_154 : decode cX3_copyFrom 154 = .ok (.bipush 6, 2) := by decide +kernel
theorem dX3_copyFrom_156 : decode cX3_copyFrom 156 = .ok (.if_icmp .ge 28, 3) := by decide +kernel
theorem dX3_copyFrom_159 : decode cX3_copyFrom 159 = .ok (.aload_n 1, 1) := by decide +kernel
theorem dX3_copyFrom_160 : decode cX3_copyFrom 160 = .ok (.getfield 41, 3) := by decide +kernel
theorem dX3_copyFrom_163 : decode cX3_copyFrom 163 = .ok (.iload_n 2, 1) := by decide +kernel
theorem dX3_copyFrom_164 : decode cX3_copyFrom 164 = .ok (.aaload, 1) := by decide +kernel
theorem dX3_copyFrom_165 : decode cX3_copyFrom 165 = .ok (.iconst 0, 1) := by decide +kernel
theorem dX3_copyFrom_166 : decode cX3_copyFrom 166 = .ok (.aload_n 0, 1) := by decide +kernel
theorem dX3_copyFrom_167 : decode cX3_copyFrom 167 = .ok (.getfield 41, 3) := by decide +kernel
theorem dX3_copyFrom_170 : decode cX3_copyFrom 170 = .ok (.iload_n 2, 1) := by decide +kernel
theorem dX3_copyFrom_171 : decode cX3_copyFrom 171 = .ok (.aaload, 1) := by decide +kernel
theorem dX3_copyFrom_172 : decode cX3_copyFrom 172 = .ok (.iconst 0, 1) := by decide +kernel
theorem dX3_copyFrom_173 : decode cX3_copyFrom 173 = .ok (.bipush 24, 2) := by decide +kernel
theorem dX3_copyFrom_175 : decode cX3_copyFrom 175 = .ok (.invokestatic 50, 3) := by decide +kernel
theorem dX3_copyFrom_178 : decode cX3_copyFrom 178 = .ok (.iinc 2 1, 3) := by decide +kernel
theorem dX3_copyFrom_181 : decode cX3_copyFrom 181 = .ok (.goto (-28), 3) := by decide +kernel
theorem dX3_copyFrom_184 : decode cX3_copyFrom 184 = .ok (.aload_n 1, 1) := by decide +kernel
theorem dX3_copyFrom_185 : decode cX3_copyFrom 185 = .ok (.getfield 44, 3) := by decide +kernel
theorem dX3_copyFrom_188 : decode cX3_copyFrom 188 = .ok (.iconst 0, 1) := by decide +kernel
theorem dX3_copyFrom_189 : decode cX3_copyFrom 189 = .ok (.aload_n 0, 1) := by decide +kernel
theorem dX3_copyFrom_190 : decode cX3_copyFrom 190 = .ok (.getfield 44, 3) := by decide +kernel
theorem dX3_copyFrom_193 : decode cX3_copyFrom 193 = .ok (.iconst 0, 1) := by decide +kernel
theorem dX3_copyFrom_194 : decode cX3_copyFrom 194 = .ok (.bipush 8, 2) := by decide +kernel
theorem dX3_copyFrom_196 : decode cX3_copyFrom 196 = .ok (.invokestatic 50, 3) := by decide +kernel
theorem dX3_copyFrom_199 : decode cX3_copyFrom 199 = .ok (.return_, 1) := by decide +kernel
theorem dX3_hasLeg_0 : decode cX3_hasLeg 0 = .ok (.iload_n 1, 1) := by decide +kernel
theorem dX3_hasLeg_1 : decode cX3_hasLeg 1 = .ok (.ifCond .lt 15, 3) := by decide +kernel
theorem dX3_hasLeg_4 : decode cX3_hasLeg 4 = .ok (.iload_n 1, 1) := by decide +kernel
theorem dX3_hasLeg_5 : decode cX3_hasLeg 5 = .ok (.aload_n 0, 1) := by decide +kernel
theorem dX3_hasLeg_6 : decode cX3_hasLeg 6 = .ok (.getfield 56, 3) := by decide +kernel
theorem dX3_hasLeg_9 : decode cX3_hasLeg 9 = .ok (.if_icmp .ge 7, 3) := by decide +kernel
theorem dX3_hasLeg_12 : decode cX3_hasLeg 12 = .ok (.iconst 1, 1) := by decide +kernel
theorem dX3_hasLeg_13 : decode cX3_hasLeg 13 = .ok (.goto 4, 3) := by decide +kernel
theorem dX3_hasLeg_16 : decode cX3_hasLeg 16 = .ok (.iconst 0, 1) := by decide +kernel
theorem dX3_hasLeg_17 : decode cX3_hasLeg 17 = .ok (.ireturn, 1) := by decide +kernel
theorem dX3_hasCrew_0 : decode cX3_hasCrew 0 = .ok (.iload_n 1, 1) := by decide +kernel
theorem dX3_hasCrew_1 : decode cX3_hasCrew 1 = .ok (.ifCond .lt 15, 3) := by decide +kernel
theorem dX3_hasCrew_4 : decode cX3_hasCrew 4 = .ok (.iload_n 1, 1) := by decide +kernel
theorem dX3_hasCrew_5 : decode cX3_hasCrew 5 = .ok (.aload_n 0, 1) := by decide +kernel
theorem dX3_hasCrew_6 : decode cX3_hasCrew 6 = .ok (.getfield 60, 3) := by decide +kernel
theorem dX3_hasCrew_9 : decode cX3_hasCrew 9 = .ok (.if_icmp .ge 7, 3) := by decide +kernel
theorem dX3_hasCrew_12 : decode cX3_hasCrew 12 = .ok (.iconst 1, 1) := by decide +kernel
theorem dX3_hasCrew_13 : decode cX3_hasCrew 13 = .ok (.goto 4, 3) := by decide +kernel
theorem dX3_hasCrew_16 : decode cX3_hasCrew 16 = .ok (.iconst 0, 1) := by decide +kernel
theorem dX3_hasCrew_17 : decode cX3_hasCrew 17 = .ok (.ireturn, 1) := by decide +kernel
theorem dX3_hasTwin_0 : decode cX3_hasTwin 0 = .ok (.iconst 0, 1) := by decide +kernel
theorem dX3_hasTwin_1 : decode cX3_hasTwin 1 = .ok (.istore 5, 2) := by decide +kernel
theorem dX3_hasTwin_3 : decode cX3_hasTwin 3 = .ok (.iload 5, 2) := by decide +kernel
theorem dX3_hasTwin_5 : decode cX3_hasTwin 5 = .ok (.aload_n 0, 1) := by decide +kernel
theorem dX3_hasTwin_6 : decode cX3_hasTwin 6 = .ok (.getfield 56, 3) := by decide +kernel
theorem dX3_hasTwin_9 : decode cX3_hasTwin 9 = .ok (.if_icmp .ge 51, 3) := by decide +kernel
theorem dX3_hasTwin_12 : decode cX3_hasTwin 12 = .ok (.iload 5, 2) := by decide +kernel
theorem dX3_hasTwin_14 : decode cX3_hasTwin 14 = .ok (.iload 4, 2) := by decide +kernel
theorem dX3_hasTwin_16 : decode cX3_hasTwin 16 = .ok (.if_icmp .eq 38, 3) := by decide +kernel
theorem dX3_hasTwin_19 : decode cX3_hasTwin 19 = .ok (.aload_n 0, 1) := by decide +kernel
theorem dX3_hasTwin_20 : decode cX3_hasTwin 20 = .ok (.getfield 9, 3) := by decide +kernel
theorem dX3_hasTwin_23 : decode cX3_hasTwin 23 = .ok (.iload 5, 2) := by decide +kernel
theorem dX3_hasTwin_25 : decode cX3_hasTwin 25 = .ok (.iaload, 1) := by decide +kernel
theorem dX3_hasTwin_26 : decode cX3_hasTwin 26 = .ok (.iload_n 1, 1) := by decide +kernel
theorem dX3_hasTwin_27 : decode cX3_hasTwin 27 = .ok (.if_icmp .ne 27, 3) := by decide +kernel
theorem dX3_hasTwin_30 : decode cX3_hasTwin 30 = .ok (.aload_n 0, 1) := by decide +kernel
theorem dX3_hasTwin_31 : decode cX3_hasTwin 31 = .ok (.getfield 15, 3) := by decide +kernel
theorem dX3_hasTwin_34 : decode cX3_hasTwin 34 = .ok (.iload 5, 2) := by decide +kernel
theorem dX3_hasTwin_36 : decode cX3_hasTwin 36 = .ok (.iaload, 1) := by decide +kernel
theorem dX3_hasTwin_37 : decode cX3_hasTwin 37 = .ok (.iload_n 2, 1) := by decide +kernel
theorem dX3_hasTwin_38 : decode cX3_hasTwin 38 = .ok (.if_icmp .ne 16, 3) := by decide +kernel
theorem dX3_hasTwin_41 : decode cX3_hasTwin 41 = .ok (.aload_n 0, 1) := by decide +kernel
theorem dX3_hasTwin_42 : decode cX3_hasTwin 42 = .ok (.getfield 18, 3) := by decide +kernel
theorem dX3_hasTwin_45 : decode cX3_hasTwin 45 = .ok (.iload 5, 2) := by decide +kernel
theorem dX3_hasTwin_47 : decode cX3_hasTwin 47 = .ok (.iaload, 1) := by decide +kernel
theorem dX3_hasTwin_48 : decode cX3_hasTwin 48 = .ok (.iload_n 3, 1) := by decide +kernel
theorem dX3_hasTwin_49 : decode cX3_hasTwin 49 = .ok (.if_icmp .ne 5, 3) := by decide +kernel
theorem dX3_hasTwin_52 : decode cX3_hasTwin 52 = .ok (.iconst 1, 1) := by decide +kernel
theorem dX3_hasTwin_53 : decode cX3_hasTwin 53 = .ok (.ireturn, 1) := by decide +kernel
theorem dX3_hasTwin_54 : decode cX3_hasTwin 54 = .ok (.iinc 5 1, 3) := by decide +kernel
theorem dX3_hasTwin_57 : decode cX3_hasTwin 57 = .ok (.goto (-54), 3) := by decide +kernel
theorem dX3_hasTwin_60 : decode cX3_hasTwin 60 = .ok (.iconst 0, 1) := by decide +kernel
theorem dX3_hasTwin_61 : decode cX3_hasTwin 61 = .ok (.ireturn, 1) := by decide +kernel
theorem dX3_sortLegs_0 : decode cX3_sortLegs 0 = .ok (.iconst 0, 1) := by decide +kernel
theorem dX3_sortLegs_1 : decode cX3_sortLegs 1 = .ok (.istore_n 1, 1) := by decide +kernel
theorem dX3_sortLegs_2 : decode cX3_sortLegs 2 = .ok (.iload_n 1, 1) := by decide +kernel
theorem dX3_sortLegs_3 : decode cX3_sortLegs 3 = .ok (.aload_n 0, 1) := by decide +kernel
theorem dX3_sortLegs_4 : decode cX3_sortLegs 4 = .ok (.getfield 56, 3) := by decide +kernel
theorem dX3_sortLegs_7 : decode cX3_sortLegs 7 = .ok (.if_icmp .ge 64, 3) := by decide +kernel
theorem dX3_sortLegs_10 : decode cX3_sortLegs 10 = .ok (.iload_n 1, 1) := by decide +kernel
theorem dX3_sortLegs_11 : decode cX3_sortLegs 11 = .ok (.istore_n 2, 1) := by decide +kernel
theorem dX3_sortLegs_12 : decode cX3_sortLegs 12 = .ok (.iload_n 2, 1) := by decide +kernel
theorem dX3_sortLegs_13 : decode cX3_sortLegs 13 = .ok (.ifCond .le 45, 3) := by decide +kernel
theorem dX3_sortLegs_16 : decode cX3_sortLegs 16 = .ok (.aload_n 0, 1) := by decide +kernel
theorem dX3_sortLegs_17 : decode cX3_sortLegs 17 = .ok (.getfield 18, 3) := by decide +kernel
theorem dX3_sortLegs_20 : decode cX3_sortLegs 20 = .ok (.aload_n 0, 1) := by decide +kernel
theorem dX3_sortLegs_21 : decode cX3_sortLegs 21 = .ok (.getfield 27, 3) := by decide +kernel
theorem dX3_sortLegs_24 : decode cX3_sortLegs 24 = .ok (.iload_n 2, 1) := by decide +kernel
theorem dX3_sortLegs_25 : decode cX3_sortLegs 25 = .ok (.iconst 1, 1) := by decide +kernel
theorem dX3_sortLegs_26 : decode cX3_sortLegs 26 = .ok (.isub, 1) := by decide +kernel
theorem dX3_sortLegs_27 : decode cX3_sortLegs 27 = .ok (.iaload, 1) := by decide +kernel
theorem dX3_sortLegs_28 : decode cX3_sortLegs 28 = .ok (.iaload, 1) := by decide +kernel
theorem dX3_sortLegs_29 : decode cX3_sortLegs 29 = .ok (.aload_n 0, 1) := by decide +kernel
theorem dX3_sortLegs_30 : decode cX3_sortLegs 30 = .ok (.getfield 18, 3) := by decide +kernel
theorem dX3_sortLegs_33 : decode cX3_sortLegs 33 = .ok (.iload_n 1, 1) := by decide +kernel
theorem dX3_sortLegs_34 : decode cX3_sortLegs 34 = .ok (.iaload, 1) := by decide +kernel
theorem dX3_sortLegs_35 : decode cX3_sortLegs 35 = .ok (.if_icmp .le 23, 3) := by decide +kernel
theorem dX3_sortLegs_38 : decode cX3_sortLegs 38 = .ok (.aload_n 0, 1) := by decide +kernel
theorem dX3_sortLegs_39 : decode cX3_sortLegs 39 = .ok (.getfield 27, 3) := by decide +kernel
theorem dX3_sortLegs_42 : decode cX3_sortLegs 42 = .ok (.iload_n 2, 1) := by decide +kernel
theorem dX3_sortLegs_43 : decode cX3_sortLegs 43 = .ok (.aload_n 0, 1) := by decide +kernel
theorem dX3_sortLegs_44 : decode cX3_sortLegs 44 = .ok (.getfield 27, 3) := by decide +kernel
theorem dX3_sortLegs_47 : decode cX3_sortLegs 47 = .ok (.iload_n 2, 1) := by decide +kernel
theorem dX3_sortLegs_48 : decode cX3_sortLegs 48 = .ok (.iconst 1, 1) := by decide +kernel
theorem dX3_sortLegs_49 : decode cX3_sortLegs 49 = .ok (.isub, 1) := by decide +kernel
theorem dX3_sortLegs_50 : decode cX3_sortLegs 50 = .ok (.iaload, 1) := by decide +kernel
theorem dX3_sortLegs_51 : decode cX3_sortLegs 51 = .ok (.iastore, 1) := by decide +kernel
theorem dX3_sortLegs_52 : decode cX3_sortLegs 52 = .ok (.iinc 2 (-1), 3) := by decide +kernel
theorem dX3_sortLegs_55 : decode cX3_sortLegs 55 = .ok (.goto (-43), 3) := by decide +kernel
theorem dX3_sortLegs_58 : decode cX3_sortLegs 58 = .ok (.aload_n 0, 1) := by decide +kernel
theorem dX3_sortLegs_59 : decode cX3_sortLegs 59 = .ok (.getfield 27, 3) := by decide +kernel
theorem dX3_sortLegs_62 : decode cX3_sortLegs 62 = .ok (.iload_n 2, 1) := by decide +kernel
theorem dX3_sortLegs_63 : decode cX3_sortLegs 63 = .ok (.iload_n 1, 1) := by decide +kernel
theorem dX3_sortLegs_64 : decode cX3_sortLegs 64 = .ok (.iastore, 1) := by decide +kernel
theorem dX3_sortLegs_65 : decode cX3_sortLegs 65 = .ok (.iinc 1 1, 3) := by decide +kernel
theorem dX3_sortLegs_68 : decode cX3_sortLegs 68 = .ok (.goto (-66), 3) := by decide +kernel
theorem dX3_sortLegs_71 : decode cX3_sortLegs 71 = .ok (.return_, 1) := by decide +kernel
theorem dX3_lengthOf_0 : decode cX3_lengthOf 0 = .ok (.aload_n 0, 1) := by decide +kernel
theorem dX3_lengthOf_1 : decode cX3_lengthOf 1 = .ok (.getfield 21, 3) := by decide +kernel
theorem dX3_lengthOf_4 : decode cX3_lengthOf 4 = .ok (.iload_n 1, 1) := by decide +kernel
theorem dX3_lengthOf_5 : decode cX3_lengthOf 5 = .ok (.iaload, 1) := by decide +kernel
theorem dX3_lengthOf_6 : decode cX3_lengthOf 6 = .ok (.aload_n 0, 1) := by decide +kernel
theorem dX3_lengthOf_7 : decode cX3_lengthOf 7 = .ok (.getfield 18, 3) := by decide +kernel
theorem dX3_lengthOf_10 : decode cX3_lengthOf 10 = .ok (.iload_n 1, 1) := by decide +kernel
theorem dX3_lengthOf_11 : decode cX3_lengthOf 11 = .ok (.iaload, 1) := by decide +kernel
theorem dX3_lengthOf_12 : decode cX3_lengthOf 12 = .ok (.isub, 1) := by decide +kernel
theorem dX3_lengthOf_13 : decode cX3_lengthOf 13 = .ok (.ireturn, 1) := by decide +kernel
theorem dX3_flyerOf_0 : decode cX3_flyerOf 0 = .ok (.iconst 0, 1) := by decide +kernel
theorem dX3_flyerOf_1 : decode cX3_flyerOf 1 = .ok (.istore_n 2, 1) := by decide +kernel
theorem dX3_flyerOf_2 : decode cX3_flyerOf 2 = .ok (.iload_n 2, 1) := by decide +kernel
theorem dX3_flyerOf_3 : decode cX3_flyerOf 3 = .ok (.aload_n 0, 1) := by decide +kernel
theorem dX3_flyerOf_4 : decode cX3_flyerOf 4 = .ok (.getfield 60, 3) := by decide +kernel
theorem dX3_flyerOf_7 : decode cX3_flyerOf 7 = .ok (.if_icmp .ge 23, 3) := by decide +kernel
theorem dX3_flyerOf_10 : decode cX3_flyerOf 10 = .ok (.aload_n 0, 1) := by decide +kernel
theorem dX3_flyerOf_11 : decode cX3_flyerOf 11 = .ok (.getfield 41, 3) := by decide +kernel
theorem dX3_flyerOf_14 : decode cX3_flyerOf 14 = .ok (.iload_n 2, 1) := by decide +kernel
theorem dX3_flyerOf_15 : decode cX3_flyerOf 15 = .ok (.aaload, 1) := by decide +kernel
theorem dX3_flyerOf_16 : decode cX3_flyerOf 16 = .ok (.iload_n 1, 1) := by decide +kernel
theorem dX3_flyerOf_17 : decode cX3_flyerOf 17 = .ok (.iaload, 1) := by decide +kernel
theorem dX3_flyerOf_18 : decode cX3_flyerOf 18 = .ok (.iconst 1, 1) := by decide +kernel
theorem dX3_flyerOf_19 : decode cX3_flyerOf 19 = .ok (.if_icmp .ne 5, 3) := by decide +kernel
theorem dX3_flyerOf_22 : decode cX3_flyerOf 22 = .ok (.iload_n 2, 1) := by decide +kernel
theorem dX3_flyerOf_23 : decode cX3_flyerOf 23 = .ok (.ireturn, 1) := by decide +kernel
theorem dX3_flyerOf_24 : decode cX3_flyerOf 24 = .ok (.iinc 2 1, 3) := by decide +kernel
theorem dX3_flyerOf_27 : decode cX3_flyerOf 27 = .ok (.goto (-25), 3) := by decide +kernel
theorem dX3_flyerOf_30 : decode cX3_flyerOf 30 = .ok (.bipush (-2), 2) := by decide +kernel
theorem dX3_flyerOf_32 : decode cX3_flyerOf 32 = .ok (.ireturn, 1) := by decide +kernel
theorem dX3_isOpen_0 : decode cX3_isOpen 0 = .ok (.aload_n 0, 1) := by decide +kernel
theorem dX3_isOpen_1 : decode cX3_isOpen 1 = .ok (.getfield 24, 3) := by decide +kernel
theorem dX3_isOpen_4 : decode cX3_isOpen 4 = .ok (.iload_n 1, 1) := by decide +kernel
theorem dX3_isOpen_5 : decode cX3_isOpen 5 = .ok (.iaload, 1) := by decide +kernel
theorem dX3_isOpen_6 : decode cX3_isOpen 6 = .ok (.ifCond .ne 17, 3) := by decide +kernel
theorem dX3_isOpen_9 : decode cX3_isOpen 9 = .ok (.aload_n 0, 1) := by decide +kernel
theorem dX3_isOpen_10 : decode cX3_isOpen 10 = .ok (.iload_n 1, 1) := by decide +kernel
theorem dX3_isOpen_11 : decode cX3_isOpen 11 = .ok (.invokevirtual 63, 3) := by decide +kernel
theorem dX3_isOpen_14 : decode cX3_isOpen 14 = .ok (.bipush (-2), 2) := by decide +kernel
theorem dX3_isOpen_16 : decode cX3_isOpen 16 = .ok (.if_icmp .ne 7, 3) := by decide +kernel
theorem dX3_isOpen_19 : decode cX3_isOpen 19 = .ok (.iconst 1, 1) := by decide +kernel
theorem dX3_isOpen_20 : decode cX3_isOpen 20 = .ok (.goto 4, 3) := by decide +kernel
theorem dX3_isOpen_23 : decode cX3_isOpen 23 = .ok (.iconst 0, 1) := by decide +kernel
theorem dX3_isOpen_24 : decode cX3_isOpen 24 = .ok (.ireturn, 1) := by decide +kernel
theorem dX3_minutesOf_0 : decode cX3_minutesOf 0 = .ok (.iconst 0, 1) := by decide +kernel
theorem dX3_minutesOf_1 : decode cX3_minutesOf 1 = .ok (.istore_n 2, 1) := by decide +kernel
theorem dX3_minutesOf_2 : decode cX3_minutesOf 2 = .ok (.iconst 0, 1) := by decide +kernel
theorem dX3_minutesOf_3 : decode cX3_minutesOf 3 = .ok (.istore_n 3, 1) := by decide +kernel
theorem dX3_minutesOf_4 : decode cX3_minutesOf 4 = .ok (.iload_n 3, 1) := by decide +kernel
theorem dX3_minutesOf_5 : decode cX3_minutesOf 5 = .ok (.aload_n 0, 1) := by decide +kernel
theorem dX3_minutesOf_6 : decode cX3_minutesOf 6 = .ok (.getfield 56, 3) := by decide +kernel
theorem dX3_minutesOf_9 : decode cX3_minutesOf 9 = .ok (.if_icmp .ge 29, 3) := by decide +kernel
theorem dX3_minutesOf_12 : decode cX3_minutesOf 12 = .ok (.aload_n 0, 1) := by decide +kernel
theorem dX3_minutesOf_13 : decode cX3_minutesOf 13 = .ok (.getfield 41, 3) := by decide +kernel
theorem dX3_minutesOf_16 : decode cX3_minutesOf 16 = .ok (.iload_n 1, 1) := by decide +kernel
theorem dX3_minutesOf_17 : decode cX3_minutesOf 17 = .ok (.aaload, 1) := by decide +kernel
theorem dX3_minutesOf_18 : decode cX3_minutesOf 18 = .ok (.iload_n 3, 1) := by decide +kernel
theorem dX3_minutesOf_19 : decode cX3_minutesOf 19 = .ok (.iaload, 1) := by decide +kernel
theorem dX3_minutesOf_20 : decode cX3_minutesOf 20 = .ok (.iconst 1, 1) := by decide +kernel
theorem dX3_minutesOf_21 : decode cX3_minutesOf 21 = .ok (.if_icmp .ne 11, 3) := by decide +kernel
theorem dX3_minutesOf_24 : decode cX3_minutesOf 24 = .ok (.iload_n 2, 1) := by decide +kernel
theorem dX3_minutesOf_25 : decode cX3_minutesOf 25 = .ok (.aload_n 0, 1) := by decide +kernel
theorem dX3_minutesOf_26 : decode cX3_minutesOf 26 = .ok (.iload_n 3, 1) := by decide +kernel
theorem dX3_minutesOf_27 : decode cX3_minutesOf 27 = .ok (.invokevirtual 67, 3) := by decide +kernel
theorem dX3_minutesOf_30 : decode cX3_minutesOf 30 = .ok (.iadd, 1) := by decide +kernel
theorem dX3_minutesOf_31 : decode cX3_minutesOf 31 = .ok (.istore_n 2, 1) := by decide +kernel
theorem dX3_minutesOf_32 : decode cX3_minutesOf 32 = .ok (.iinc 3 1, 3) := by decide +kernel
theorem dX3_minutesOf_35 : decode cX3_minutesOf 35 = .ok (.goto (-31), 3) := by decide +kernel
theorem dX3_minutesOf_38 : decode cX3_minutesOf 38 = .ok (.iload_n 2, 1) := by decide +kernel
theorem dX3_minutesOf_39 : decode cX3_minutesOf 39 = .ok (.ireturn, 1) := by decide +kernel
theorem dX3_isReserve_0 : decode cX3_isReserve 0 = .ok (.aload_n 0, 1) := by decide +kernel
theorem dX3_isReserve_1 : decode cX3_isReserve 1 = .ok (.getfield 33, 3) := by decide +kernel
theorem dX3_isReserve_4 : decode cX3_isReserve 4 = .ok (.iload_n 1, 1) := by decide +kernel
theorem dX3_isReserve_5 : decode cX3_isReserve 5 = .ok (.iaload, 1) := by decide +kernel
theorem dX3_isReserve_6 : decode cX3_isReserve 6 = .ok (.aload_n 0, 1) := by decide +kernel
theorem dX3_isReserve_7 : decode cX3_isReserve 7 = .ok (.getfield 36, 3) := by decide +kernel
theorem dX3_isReserve_10 : decode cX3_isReserve 10 = .ok (.iload_n 1, 1) := by decide +kernel
theorem dX3_isReserve_11 : decode cX3_isReserve 11 = .ok (.iaload, 1) := by decide +kernel
theorem dX3_isReserve_12 : decode cX3_isReserve 12 = .ok (.if_icmp .ge 7, 3) := by decide +kernel
theorem dX3_isReserve_15 : decode cX3_isReserve 15 = .ok (.iconst 1, 1) := by decide +kernel
theorem dX3_isReserve_16 : decode cX3_isReserve 16 = .ok (.goto 4, 3) := by decide +kernel
theorem dX3_isReserve_19 : decode cX3_isReserve 19 = .ok (.iconst 0, 1) := by decide +kernel
theorem dX3_isReserve_20 : decode cX3_isReserve 20 = .ok (.ireturn, 1) := by decide +kernel
theorem dX3_isOnCall_0 : decode cX3_isOnCall 0 = .ok (.aload_n 0, 1) := by decide +kernel
theorem dX3_isOnCall_1 : decode cX3_isOnCall 1 = .ok (.iload_n 1, 1) := by decide +kernel
theorem dX3_isOnCall_2 : decode cX3_isOnCall 2 = .ok (.invokevirtual 70, 3) := by decide +kernel
theorem dX3_isOnCall_5 : decode cX3_isOnCall 5 = .ok (.ifCond .eq 40, 3) := by decide +kernel
theorem dX3_isOnCall_8 : decode cX3_isOnCall 8 = .ok (.aload_n 0, 1) := by decide +kernel
theorem dX3_isOnCall_9 : decode cX3_isOnCall 9 = .ok (.getfield 18, 3) := by decide +kernel
theorem dX3_isOnCall_12 : decode cX3_isOnCall 12 = .ok (.iload_n 2, 1) := by decide +kernel
theorem dX3_isOnCall_13 : decode cX3_isOnCall 13 = .ok (.iaload, 1) := by decide +kernel
theorem dX3_isOnCall_14 : decode cX3_isOnCall 14 = .ok (.aload_n 0, 1) := by decide +kernel
theorem dX3_isOnCall_15 : decode cX3_isOnCall 15 = .ok (.getfield 33, 3) := by decide +kernel
theorem dX3_isOnCall_18 : decode cX3_isOnCall 18 = .ok (.iload_n 1, 1) := by decide +kernel
theorem dX3_isOnCall_19 : decode cX3_isOnCall 19 = .ok (.iaload, 1) := by decide +kernel
theorem dX3_isOnCall_20 : decode cX3_isOnCall 20 = .ok (.bipush 120, 2) := by decide +kernel
theorem dX3_isOnCall_22 : decode cX3_isOnCall 22 = .ok (.iadd, 1) := by decide +kernel
theorem dX3_isOnCall_23 : decode cX3_isOnCall 23 = .ok (.if_icmp .lt 22, 3) := by decide +kernel
theorem dX3_isOnCall_26 : decode cX3_isOnCall 26 = .ok (.aload_n 0, 1) := by decide +kernel
theorem dX3_isOnCall_27 : decode cX3_isOnCall 27 = .ok (.getfield 21, 3) := by decide +kernel
theorem dX3_isOnCall_30 : decode cX3_isOnCall 30 = .ok (.iload_n 2, 1) := by decide +kernel
theorem dX3_isOnCall_31 : decode cX3_isOnCall 31 = .ok (.iaload, 1) := by decide +kernel
theorem dX3_isOnCall_32 : decode cX3_isOnCall 32 = .ok (.aload_n 0, 1) := by decide +kernel
theorem dX3_isOnCall_33 : decode cX3_isOnCall 33 = .ok (.getfield 36, 3) := by decide +kernel
theorem dX3_isOnCall_36 : decode cX3_isOnCall 36 = .ok (.iload_n 1, 1) := by decide +kernel
theorem dX3_isOnCall_37 : decode cX3_isOnCall 37 = .ok (.iaload, 1) := by decide +kernel
theorem dX3_isOnCall_38 : decode cX3_isOnCall 38 = .ok (.if_icmp .gt 7, 3) := by decide +kernel
theorem dX3_isOnCall_41 : decode cX3_isOnCall 41 = .ok (.iconst 1, 1) := by decide +kernel
theorem dX3_isOnCall_42 : decode cX3_isOnCall 42 = .ok (.goto 4, 3) := by decide +kernel
theorem dX3_isOnCall_45 : decode cX3_isOnCall 45 = .ok (.iconst 0, 1) := by decide +kernel
theorem dX3_isOnCall_46 : decode cX3_isOnCall 46 = .ok (.ireturn, 1) := by decide +kernel
theorem dX4_init_0 : decode cX4_init 0 = .ok (.aload_n 0, 1) := by decide +kernel
theorem dX4_init_1 : decode cX4_init 1 = .ok (.invokespecial 3, 3) := by decide +kernel
theorem dX4_init_4 : decode cX4_init 4 = .ok (.aload_n 0, 1) := by decide +kernel
theorem dX4_init_5 : decode cX4_init 5 = .ok (.sipush 144, 3) := by decide +kernel
theorem dX4_init_8 : decode cX4_init 8 = .ok (.newarray .int, 2) := by decide +kernel
theorem dX4_init_10 : decode cX4_init 10 = .ok (.putfield 9, 3) := by decide +kernel
theorem dX4_init_13 : decode cX4_init 13 = .ok (.aload_n 0, 1) := by decide +kernel
theorem dX4_init_14 : decode cX4_init 14 = .ok (.sipush 144, 3) := by decide +kernel
theorem dX4_init_17 : decode cX4_init 17 = .ok (.newarray .int, 2) := by decide +kernel
theorem dX4_init_19 : decode cX4_init 19 = .ok (.putfield 15, 3) := by decide +kernel
theorem dX4_init_22 : decode cX4_init 22 = .ok (.aload_n 0, 1) := by decide +kernel
theorem dX4_init_23 : decode cX4_init 23 = .ok (.sipush 144, 3) := by decide +kernel
theorem dX4_init_26 : decode cX4_init 26 = .ok (.newarray .boolean, 2) := by decide +kernel
theorem dX4_init_28 : decode cX4_init 28 = .ok (.putfield 18, 3) := by decide +kernel
theorem dX4_init_31 : decode cX4_init 31 = .ok (.aload_n 0, 1) := by decide +kernel
theorem dX4_init_32 : decode cX4_init 32 = .ok (.sipush 144, 3) := by decide +kernel
theorem dX4_init_35 : decode cX4_init 35 = .ok (.newarray .int, 2) := by decide +kernel
theorem dX4_init_37 : decode cX4_init 37 = .ok (.putfield 22, 3) := by decide +kernel
theorem dX4_init_40 : decode cX4_init 40 = .ok (.return_, 1) := by decide +kernel
theorem dX4_add_0 : decode cX4_add 0 = .ok (.aload_n 0, 1) := by decide +kernel
theorem dX4_add_1 : decode cX4_add 1 = .ok (.getfield 25, 3) := by decide +kernel
theorem dX4_add_4 : decode cX4_add 4 = .ok (.sipush 144, 3) := by decide +kernel
theorem dX4_add_7 : decode cX4_add 7 = .ok (.if_icmp .lt 4, 3) := by decide +kernel
theorem dX4_add_10 : decode cX4_add 10 = .ok (.return_, 1) := by decide +kernel
theorem dX4_add_11 : decode cX4_add 11 = .ok (.aload_n 0, 1) := by decide +kernel
theorem dX4_add_12 : decode cX4_add 12 = .ok (.getfield 9, 3) := by decide +kernel
theorem dX4_add_15 : decode cX4_add 15 = .ok (.aload_n 0, 1) := by decide +kernel
theorem dX4_add_16 : decode cX4_add 16 = .ok (.getfield 25, 3) := by decide +kernel
theorem dX4_add_19 : decode cX4_add 19 = .ok (.iload_n 1, 1) := by decide +kernel
theorem dX4_add_20 : decode cX4_add 20 = .ok (.iastore, 1) := by decide +kernel
theorem dX4_add_21 : decode cX4_add 21 = .ok (.aload_n 0, 1) := by decide +kernel
theorem dX4_add_22 : decode cX4_add 22 = .ok (.getfield 15, 3) := by decide +kernel
theorem dX4_add_25 : decode cX4_add 25 = .ok (.aload_n 0, 1) := by decide +kernel
theorem dX4_add_26 : decode cX4_add 26 = .ok (.getfield 25, 3) := by decide +kernel
theorem dX4_add_29 : decode cX4_add 29 = .ok (.iload_n 2, 1) := by decide +kernel
theorem dX4_add_30 : decode cX4_add 30 = .ok (.iastore, 1) := by decide +kernel
theorem dX4_add_31 : decode cX4_add 31 = .ok (.aload_n 0, 1) := by decide +kernel
theorem dX4_add_32 : decode cX4_add 32 = .ok (.getfield 18, 3) := by decide +kernel
theorem dX4_add_35 : decode cX4_add 35 = .ok (.aload_n 0, 1) := by decide +kernel
theorem dX4_add_36 : decode cX4_add 36 = .ok (.getfield 25, 3) := by decide +kernel
theorem dX4_add_39 : decode cX4_add 39 = .ok (.iload_n 3, 1) := by decide +kernel
theorem dX4_add_40 : decode cX4_add 40 = .ok (.bastore, 1) := by decide +kernel
theorem dX4_add_41 : decode cX4_add 41 = .ok (.aload_n 0, 1) := by decide +kernel
theorem dX4_add_42 : decode cX4_add 42 = .ok (.getfield 22, 3) := by decide +kernel
theorem dX4_add_45 : decode cX4_add 45 = .ok (.aload_n 0, 1) := by decide +kernel
theorem dX4_add_46 : decode cX4_add 46 = .ok (.getfield 25, 3) := by decide +kernel
theorem dX4_add_49 : decode cX4_add 49 = .ok (.bipush (-2), 2) := by decide +kernel
theorem dX4_add_51 : decode cX4_add 51 = .ok (.iastore, 1) := by decide +kernel
theorem dX4_add_52 : decode cX4_add 52 = .ok (.aload_n 0, 1) := by decide +kernel
theorem dX4_add_53 : decode cX4_add 53 = .ok (.dup, 1) := by decide +kernel
theorem dX4_add_54 : decode cX4_add 54 = .ok (.getfield 25, 3) := by decide +kernel
theorem dX4_add_57 : decode cX4_add 57 = .ok (.iconst 1, 1) := by decide +kernel
theorem dX4_add_58 : decode cX4_add 58 = .ok (.iadd, 1) := by decide +kernel
theorem dX4_add_59 : decode cX4_add 59 = .ok (.putfield 25, 3) := by decide +kernel
theorem dX4_add_62 : decode cX4_add 62 = .ok (.return_, 1) := by decide +kernel
theorem dX4_flownEntry_0 : decode cX4_flownEntry 0 = .ok (.iconst 0, 1) := by decide +kernel
theorem dX4_flownEntry_1 : decode cX4_flownEntry 1 = .ok (.istore_n 2, 1) := by decide +kernel
theorem dX4_flownEntry_2 : decode cX4_flownEntry 2 = .ok (.iload_n 2, 1) := by decide +kernel
theorem dX4_flownEntry_3 : decode cX4_flownEntry 3 = .ok (.aload_n 0, 1) := by decide +kernel
theorem dX4_flownEntry_4 : decode cX4_flownEntry 4 = .ok (.getfield 25, 3) := by decide +kernel
theorem dX4_flownEntry_7 : decode cX4_flownEntry 7 = .ok (.if_icmp .ge 30, 3) := by decide +kernel
theorem dX4_flownEntry_10 : decode cX4_flownEntry 10 = .ok (.aload_n 0, 1) := by decide +kernel
theorem dX4_flownEntry_11 : decode cX4_flownEntry 11 = .ok (.getfield 15, 3) := by decide +kernel
theorem dX4_flownEntry_14 : decode cX4_flownEntry 14 = .ok (.iload_n 2, 1) := by decide +kernel
theorem dX4_flownEntry_15 : decode cX4_flownEntry 15 = .ok (.iaload, 1) := by decide +kernel
theorem dX4_flownEntry_16 : decode cX4_flownEntry 16 = .ok (.iload_n 1, 1) := by decide +kernel
theorem dX4_flownEntry_17 : decode cX4_flownEntry 17 = .ok (.if_icmp .ne 14, 3) := by decide +kernel
theorem dX4_flownEntry_20 : decode cX4_flownEntry 20 = .ok (.aload_n 0, 1) := by decide +kernel
theorem dX4_flownEntry_21 : decode cX4_flownEntry 21 = .ok (.getfield 18, 3) := by decide +kernel
theorem dX4_flownEntry_24 : decode cX4_flownEntry 24 = .ok (.iload_n 2, 1) := by decide +kernel
theorem dX4_flownEntry_25 : decode cX4_flownEntry 25 = .ok (.baload, 1) := by decide +kernel
theorem dX4_flownEntry_26 : decode cX4_flownEntry 26 = .ok (.ifCond .eq 5, 3) := by decide +kernel
theorem dX4_flownEntry_29 : decode cX4_flownEntry 29 = .ok (.iload_n 2, 1) := by decide +kernel
theorem dX4_flownEntry_30 : decode cX4_flownEntry 30 = .ok (.ireturn, 1) := by decide +kernel
theorem dX4_flownEntry_31 : decode cX4_flownEntry 31 = .ok (.iinc 2 1, 3) := by decide +kernel
theorem dX4_flownEntry_34 : decode cX4_flownEntry 34 = .ok (.goto (-32), 3) := by decide +kernel
theorem dX4_flownEntry_37 : decode cX4_flownEntry 37 = .ok (.bipush (-2), 2) := by decide +kernel
theorem dX4_flownEntry_39 : decode cX4_flownEntry 39 = .ok (.ireturn, 1) := by decide +kernel
theorem dX5_init_0 : decode cX5_init 0 = .ok (.aload_n 0, 1) := by decide +kernel
theorem dX5_init_1 : decode cX5_init 1 = .ok (.invokespecial 3, 3) := by decide +kernel
theorem dX5_init_4 : decode cX5_init 4 = .ok (.aload_n 0, 1) := by decide +kernel
theorem dX5_init_5 : decode cX5_init 5 = .ok (.sipush 600, 3) := by decide +kernel
theorem dX5_init_8 : decode cX5_init 8 = .ok (.newarray .char, 2) := by decide +kernel
theorem dX5_init_10 : decode cX5_init 10 = .ok (.putfield 9, 3) := by decide +kernel
theorem dX5_init_13 : decode cX5_init 13 = .ok (.return_, 1) := by decide +kernel
theorem dX5_write_0 : decode cX5_write 0 = .ok (.aload_n 0, 1) := by decide +kernel
theorem dX5_write_1 : decode cX5_write 1 = .ok (.iconst 0, 1) := by decide +kernel
theorem dX5_write_2 : decode cX5_write 2 = .ok (.putfield 15, 3) := by decide +kernel
theorem dX5_write_5 : decode cX5_write 5 = .ok (.iconst 0, 1) := by decide +kernel
theorem dX5_write_6 : decode cX5_write 6 = .ok (.istore_n 3, 1) := by decide +kernel
theorem dX5_write_7 : decode cX5_write 7 = .ok (.iload_n 3, 1) := by decide +kernel
theorem dX5_write_8 : decode cX5_write 8 = .ok (.aload_n 1, 1) := by decide +kernel
theorem dX5_write_9 : decode cX5_write 9 = .ok (.getfield 19, 3) := by decide +kernel
theorem dX5_write_12 : decode cX5_write 12 = .ok (.if_icmp .ge 99, 3) := by decide +kernel
theorem dX5_write_15 : decode cX5_write 15 = .ok (.aload_n 1, 1) := by decide +kernel
theorem dX5_write_16 : decode cX5_write 16 = .ok (.getfield 24, 3) := by decide +kernel
theorem dX5_write_19 : decode cX5_write 19 = .ok (.iload_n 3, 1) := by decide +kernel
theorem dX5_write_20 : decode cX5_write 20 = .ok (.iaload, 1) := by decide +kernel
theorem dX5_write_21 : decode cX5_write 21 = .ok (.istore 4, 2) := by decide +kernel
theorem dX5_write_23 : decode cX5_write 23 = .ok (.aload_n 0, 1) := by decide +kernel
theorem dX5_write_24 : decode cX5_write 24 = .ok (.aload_n 2, 1) := by decide +kernel
theorem dX5_write_25 : decode cX5_write 25 = .ok (.getfield 28, 3) := by decide +kernel
theorem dX5_write_28 : decode cX5_write 28 = .ok (.iload 4, 2) := by decide +kernel
theorem dX5_write_30 : decode cX5_write 30 = .ok (.iaload, 1) := by decide +kernel
theorem dX5_write_31 : decode cX5_write 31 = .ok (.invokevirtual 33, 3) := by decide +kernel
theorem dX5_write_34 : decode cX5_write 34 = .ok (.aload_n 0, 1) := by decide +kernel
theorem dX5_write_35 : decode cX5_write 35 = .ok (.bipush 62, 2) := by decide +kernel
theorem dX5_write_37 : decode cX5_write 37 = .ok (.invokevirtual 37, 3) := by decide +kernel
theorem dX5_write_40 : decode cX5_write 40 = .ok (.aload_n 0, 1) := by decide +kernel
theorem dX5_write_41 : decode cX5_write 41 = .ok (.aload_n 2, 1) := by decide +kernel
theorem dX5_write_42 : decode cX5_write 42 = .ok (.getfield 41, 3) := by decide +kernel
theorem dX5_write_45 : decode cX5_write 45 = .ok (.iload 4, 2) := by decide +kernel
theorem dX5_write_47 : decode cX5_write 47 = .ok (.iaload, 1) := by decide +kernel
theorem dX5_write_48 : decode cX5_write 48 = .ok (.invokevirtual 33, 3) := by decide +kernel
theorem dX5_write_51 : decode cX5_write 51 = .ok (.aload_n 0, 1) := by decide +kernel
theorem dX5_write_52 : decode cX5_write 52 = .ok (.bipush 32, 2) := by decide +kernel
theorem dX5_write_54 : decode cX5_write 54 = .ok (.invokevirtual 37, 3) := by decide +kernel
theorem dX5_write_57 : decode cX5_write 57 = .ok (.aload_n 0, 1) := by decide +kernel
theorem dX5_write_58 : decode cX5_write 58 = .ok (.aload_n 2, 1) := by decide +kernel
theorem dX5_write_59 : decode cX5_write 59 = .ok (.getfield 44, 3) := by decide +kernel
theorem dX5_write_62 : decode cX5_write 62 = .ok (.iload 4, 2) := by decide +kernel
theorem dX5_write_64 : decode cX5_write 64 = .ok (.iaload, 1) := by decide +kernel
theorem dX5_write_65 : decode cX5_write 65 = .ok (.invokevirtual 47, 3) := by decide +kernel
theorem dX5_write_68 : decode cX5_write 68 = .ok (.aload_n 0, 1) := by decide +kernel
theorem dX5_write_69 : decode cX5_write 69 = .ok (.bipush 45, 2) := by decide +kernel
theorem dX5_write_71 : decode cX5_write 71 = .ok (.invokevirtual 37, 3) := by decide +kernel
theorem dX5_write_74 : decode cX5_write 74 = .ok (.aload_n 0, 1) := by decide +kernel
theorem dX5_write_75 : decode cX5_write 75 = .ok (.aload_n 2, 1) := by decide +kernel
theorem dX5_write_76 : decode cX5_write 76 = .ok (.getfield 50, 3) := by decide +kernel
theorem dX5_write_79 : decode cX5_write 79 = .ok (.iload 4, 2) := by decide +kernel
theorem dX5_write_81 : decode cX5_write 81 = .ok (.iaload, 1) := by decide +kernel
theorem dX5_write_82 : decode cX5_write 82 = .ok (.invokevirtual 47, 3) := by decide +kernel
theorem dX5_write_85 : decode cX5_write 85 = .ok (.aload_n 0, 1) := by decide +kernel
theorem dX5_write_86 : decode cX5_write 86 = .ok (.aload_n 1, 1) := by decide +kernel
theorem dX5_write_87 : decode cX5_write 87 = .ok (.getfield 53, 3) := by decide +kernel
theorem dX5_write_90 : decode cX5_write 90 = .ok (.iload_n 3, 1) := by decide +kernel
theorem dX5_write_91 : decode cX5_write 91 = .ok (.baload, 1) := by decide +kernel
theorem dX5_write_92 : decode cX5_write 92 = .ok (.ifCond .eq 8, 3) := by decide +kernel
theorem dX5_write_95 : decode cX5_write 95 = .ok (.ldc 57, 2) := by decide +kernel
theorem dX5_write_97 : decode cX5_write 97 = .ok (.goto 5, 3) := by decide +kernel
theorem dX5_write_100 : decode cX5_write 100 = .ok (.ldc 59, 2) := by decide +kernel
theorem dX5_write_102 : decode cX5_write 102 = .ok (.invokevirtual 61, 3) := by decide +kernel
theorem dX5_write_105 : decode cX5_write 105 = .ok (.iinc 3 1, 3) := by decide +kernel
theorem dX5_write_108 : decode cX5_write 108 = .ok (.goto (-101), 3) := by decide +kernel
theorem dX5_write_111 : decode cX5_write 111 = .ok (.return_, 1) := by decide +kernel
theorem dX5_putTime_0 : decode cX5_putTime 0 = .ok (.iload_n 1, 1) := by decide +kernel
theorem dX5_putTime_1 : decode cX5_putTime 1 = .ok (.sipush 1440, 3) := by decide +kernel
theorem dX5_putTime_4 : decode cX5_putTime 4 = .ok (.irem, 1) := by decide +kernel
theorem dX5_putTime_5 : decode cX5_putTime 5 = .ok (.bipush 60, 2) := by decide +kernel
theorem dX5_putTime_7 : decode cX5_putTime 7 = .ok (.idiv, 1) := by decide +kernel
theorem dX5_putTime_8 : decode cX5_putTime 8 = .ok (.istore_n 2, 1) := by decide +kernel
theorem dX5_putTime_9 : decode cX5_putTime 9 = .ok (.iload_n 1, 1) := by decide +kernel
theorem dX5_putTime_10 : decode cX5_putTime 10 = .ok (.bipush 60, 2) := by decide +kernel
theorem dX5_putTime_12 : decode cX5_putTime 12 = .ok (.irem, 1) := by decide +kernel
theorem dX5_putTime_13 : decode cX5_putTime 13 = .ok (.istore_n 3, 1) := by decide +kernel
theorem dX5_putTime_14 : decode cX5_putTime 14 = .ok (.aload_n 0, 1) := by decide +kernel
theorem dX5_putTime_15 : decode cX5_putTime 15 = .ok (.bipush 100, 2) := by decide +kernel
theorem dX5_putTime_17 : decode cX5_putTime 17 = .ok (.invokevirtual 37, 3) := by decide +kernel
theorem dX5_putTime_20 : decode cX5_putTime 20 = .ok (.aload_n 0, 1) := by decide +kernel
theorem dX5_putTime_21 : decode cX5_putTime 21 = .ok (.iload_n 1, 1) := by decide +kernel
theorem dX5_putTime_22 : decode cX5_putTime 22 = .ok (.sipush 1440, 3) := by decide +kernel
theorem dX5_putTime_25 : decode cX5_putTime 25 = .ok (.idiv, 1) := by decide +kernel
theorem dX5_putTime_26 : decode cX5_putTime 26 = .ok (.invokevirtual 33, 3) := by decide +kernel
theorem dX5_putTime_29 : decode cX5_putTime 29 = .ok (.aload_n 0, 1) := by decide +kernel
theorem dX5_putTime_30 : decode cX5_putTime 30 = .ok (.bipush 104, 2) := by decide +kernel
theorem dX5_putTime_32 : decode cX5_putTime 32 = .ok (.invokevirtual 37, 3) := by decide +kernel
theorem dX5_putTime_35 : decode cX5_putTime 35 = .ok (.aload_n 0, 1) := by decide +kernel
theorem dX5_putTime_36 : decode cX5_putTime 36 = .ok (.iload_n 2, 1) := by decide +kernel
theorem dX5_putTime_37 : decode cX5_putTime 37 = .ok (.bipush 10, 2) := by decide +kernel
theorem dX5_putTime_39 : decode cX5_putTime 39 = .ok (.idiv, 1) := by decide +kernel
theorem dX5_putTime_40 : decode cX5_putTime 40 = .ok (.invokevirtual 33, 3) := by decide +kernel
theorem dX5_putTime_43 : decode cX5_putTime 43 = .ok (.aload_n 0, 1) := by decide +kernel
theorem dX5_putTime_44 : decode cX5_putTime 44 = .ok (.iload_n 2, 1) := by decide +kernel
theorem dX5_putTime_45 : decode cX5_putTime 45 = .ok (.bipush 10, 2) := by decide +kernel
theorem dX5_putTime_47 : decode cX5_putTime 47 = .ok (.irem, 1) := by decide +kernel
theorem dX5_putTime_48 : decode cX5_putTime 48 = .ok (.invokevirtual 33, 3) := by decide +kernel
theorem dX5_putTime_51 : decode cX5_putTime 51 = .ok (.aload_n 0, 1) := by decide +kernel
theorem dX5_putTime_52 : decode cX5_putTime 52 = .ok (.iload_n 3, 1) := by decide +kernel
theorem dX5_putTime_53 : decode cX5_putTime 53 = .ok (.bipush 10, 2) := by decide +kernel
theorem dX5_putTime_55 : decode cX5_putTime 55 = .ok (.idiv, 1) := by decide +kernel
theorem dX5_putTime_56 : decode cX5_putTime 56 = .ok (.invokevirtual 33, 3) := by decide +kernel
theorem dX5_putTime_59 : decode cX5_putTime 59 = .ok (.aload_n 0, 1) := by decide +kernel
theorem dX5_putTime_60 : decode cX5_putTime 60 = .ok (.iload_n 3, 1) := by decide +kernel
theorem dX5_putTime_61 : decode cX5_putTime 61 = .ok (.bipush 10, 2) := by decide +kernel
theorem dX5_putTime_63 : decode cX5_putTime 63 = .ok (.irem, 1) := by decide +kernel
theorem dX5_putTime_64 : decode cX5_putTime 64 = .ok (.invokevirtual 33, 3) := by decide +kernel
theorem dX5_putTime_67 : decode cX5_putTime 67 = .ok (.return_, 1) := by decide +kernel
theorem dX5_putWord_0 : decode cX5_putWord 0 = .ok (.iconst 0, 1) := by decide +kernel
theorem dX5_putWord_1 : decode cX5_putWord 1 = .ok (.istore_n 2, 1) := by decide +kernel
theorem dX5_putWord_2 : decode cX5_putWord 2 = .ok (.iload_n 2, 1) := by decide +kernel
theorem dX5_putWord_3 : decode cX5_putWord 3 = .ok (.aload_n 1, 1) := by decide +kernel
theorem dX5_putWord_4 : decode cX5_putWord 4 = .ok (.invokevirtual 65, 3) := by decide +kernel
theorem dX5_putWord_7 : decode cX5_putWord 7 = .ok (.if_icmp .ge 18, 3) := by decide +kernel
theorem dX5_putWord_10 : decode cX5_putWord 10 = .ok (.aload_n 0, 1) := by decide +kernel
theorem dX5_putWord_11 : decode cX5_putWord 11 = .ok (.aload_n 1, 1) := by decide +kernel
theorem dX5_putWord_12 : decode cX5_putWord 12 = .ok (.iload_n 2, 1) := by decide +kernel
theorem dX5_putWord_13 : decode cX5_putWord 13 = .ok (.invokevirtual 70, 3) := by decide +kernel
theorem dX5_putWord_16 : decode cX5_putWord 16 = .ok (.invokevirtual 37, 3) := by decide +kernel
theorem dX5_putWord_19 : decode cX5_putWord 19 = .ok (.iinc 2 1, 3) := by decide +kernel
theorem dX5_putWord_22 : decode cX5_putWord 22 = .ok (.goto (-20), 3) := by decide +kernel
theorem dX5_putWord_25 : decode cX5_putWord 25 = .ok (.return_, 1) := by decide +kernel
theorem dX5_putDigit_0 : decode cX5_putDigit 0 = .ok (.aload_n 0, 1) := by decide +kernel
theorem dX5_putDigit_1 : decode cX5_putDigit 1 = .ok (.bipush 48, 2) := by decide +kernel
theorem dX5_putDigit_3 : decode cX5_putDigit 3 = .ok (.iload_n 1, 1) := by decide +kernel
theorem dX5_putDigit_4 : decode cX5_putDigit 4 = .ok (.iadd, 1) := by decide +kernel
theorem dX5_putDigit_5 : decode cX5_putDigit 5 = .ok (.i2c, 1) := by decide +kernel
theorem dX5_putDigit_6 : decode cX5_putDigit 6 = .ok (.invokevirtual 37, 3) := by decide +kernel
theorem dX5_putDigit_9 : decode cX5_putDigit 9 = .ok (.return_, 1) := by decide +kernel
theorem dX5_put_0 : decode cX5_put 0 = .ok (.aload_n 0, 1) := by decide +kernel
theorem dX5_put_1 : decode cX5_put 1 = .ok (.getfield 15, 3) := by decide +kernel
theorem dX5_put_4 : decode cX5_put 4 = .ok (.aload_n 0, 1) := by decide +kernel
theorem dX5_put_5 : decode cX5_put 5 = .ok (.getfield 9, 3) := by decide +kernel
theorem dX5_put_8 : decode cX5_put 8 = .ok (.arraylength, 1) := by decide +kernel
theorem dX5_put_9 : decode cX5_put 9 = .ok (.if_icmp .ge 23, 3) := by decide +kernel
theorem dX5_put_12 : decode cX5_put 12 = .ok (.aload_n 0, 1) := by decide +kernel
theorem dX5_put_13 : decode cX5_put 13 = .ok (.getfield 9, 3) := by decide +kernel
theorem dX5_put_16 : decode cX5_put 16 = .ok (.aload_n 0, 1) := by decide +kernel
theorem dX5_put_17 : decode cX5_put 17 = .ok (.getfield 15, 3) := by decide +kernel
theorem dX5_put_20 : decode cX5_put 20 = .ok (.iload_n 1, 1) := by decide +kernel
theorem dX5_put_21 : decode cX5_put 21 = .ok (.castore, 1) := by decide +kernel
theorem dX5_put_22 : decode cX5_put 22 = .ok (.aload_n 0, 1) := by decide +kernel
theorem dX5_put_23 : decode cX5_put 23 = .ok (.dup, 1) := by decide +kernel
theorem dX5_put_24 : decode cX5_put 24 = .ok (.getfield 15, 3) := by decide +kernel
theorem dX5_put_27 : decode cX5_put 27 = .ok (.iconst 1, 1) := by decide +kernel
theorem dX5_put_28 : decode cX5_put 28 = .ok (.iadd, 1) := by decide +kernel
theorem dX5_put_29 : decode cX5_put 29 = .ok (.putfield 15, 3) := by decide +kernel
theorem dX5_put_32 : decode cX5_put 32 = .ok (.return_, 1) := by decide +kernel
theorem dX6_init_0 : decode cX6_init 0 = .ok (.aload_n 0, 1) := by decide +kernel
theorem dX6_init_1 : decode cX6_init 1 = .ok (.invokespecial 3, 3) := by decide +kernel
theorem dX6_init_4 : decode cX6_init 4 = .ok (.aload_n 0, 1) := by decide +kernel
theorem dX6_init_5 : decode cX6_init 5 = .ok (.bipush 24, 2) := by decide +kernel
theorem dX6_init_7 : decode cX6_init 7 = .ok (.newarray .int, 2) := by decide +kernel
theorem dX6_init_9 : decode cX6_init 9 = .ok (.putfield 9, 3) := by decide +kernel
theorem dX6_init_12 : decode cX6_init 12 = .ok (.aload_n 0, 1) := by decide +kernel
theorem dX6_init_13 : decode cX6_init 13 = .ok (.bipush 24, 2) := by decide +kernel
theorem dX6_init_15 : decode cX6_init 15 = .ok (.newarray .boolean, 2) := by decide +kernel
theorem dX6_init_17 : decode cX6_init 17 = .ok (.putfield 15, 3) := by decide +kernel
theorem dX6_init_20 : decode cX6_init 20 = .ok (.aload_n 0, 1) := by decide +kernel
theorem dX6_init_21 : decode cX6_init 21 = .ok (.bipush 24, 2) := by decide +kernel
theorem dX6_init_23 : decode cX6_init 23 = .ok (.newarray .int, 2) := by decide +kernel
theorem dX6_init_25 : decode cX6_init 25 = .ok (.putfield 19, 3) := by decide +kernel
theorem dX6_init_28 : decode cX6_init 28 = .ok (.aload_n 0, 1) := by decide +kernel
theorem dX6_init_29 : decode cX6_init 29 = .ok (.bipush 24, 2) := by decide +kernel
theorem dX6_init_31 : decode cX6_init 31 = .ok (.newarray .int, 2) := by decide +kernel
theorem dX6_init_33 : decode cX6_init 33 = .ok (.putfield 22, 3) := by decide +kernel
theorem dX6_init_36 : decode cX6_init 36 = .ok (.aload_n 0, 1) := by decide +kernel
theorem dX6_init_37 : decode cX6_init 37 = .ok (.bipush 24, 2) := by decide +kernel
theorem dX6_init_39 : decode cX6_init 39 = .ok (.newarray .int, 2) := by decide +kernel
theorem dX6_init_41 : decode cX6_init 41 = .ok (.putfield 25, 3) := by decide +kernel
theorem dX6_init_44 : decode cX6_init 44 = .ok (.aload_n 0, 1) := by decide +kernel
theorem dX6_init_45 : decode cX6_init 45 = .ok (.bipush 24, 2) := by decide +kernel
theorem dX6_init_47 : decode cX6_init 47 = .ok (.newarray .int, 2) := by decide +kernel
theorem dX6_init_49 : decode cX6_init 49 = .ok (.putfield 28, 3) := by decide +kernel
theorem dX6_init_52 : decode cX6_init 52 = .ok (.aload_n 0, 1) := by decide +kernel
theorem dX6_init_53 : decode cX6_init 53 = .ok (.bipush 24, 2) := by decide +kernel
theorem dX6_init_55 : decode cX6_init 55 = .ok (.newarray .int, 2) := by decide +kernel
theorem dX6_init_57 : decode cX6_init 57 = .ok (.putfield 31, 3) := by decide +kernel
theorem dX6_init_60 : decode cX6_init 60 = .ok (.aload_n 0, 1) := by decide +kernel
theorem dX6_init_61 : decode cX6_init 61 = .ok (.sipush 168, 3) := by decide +kernel
theorem dX6_init_64 : decode cX6_init 64 = .ok (.newarray .int, 2) := by decide +kernel
theorem dX6_init_66 : decode cX6_init 66 = .ok (.putfield 34, 3) := by decide +kernel
theorem dX6_init_69 : decode cX6_init 69 = .ok (.aload_n 0, 1) := by decide +kernel
theorem dX6_init_70 : decode cX6_init 70 = .ok (.sipush 168, 3) := by decide +kernel
theorem dX6_init_73 : decode cX6_init 73 = .ok (.newarray .int, 2) := by decide +kernel
theorem dX6_init_75 : decode cX6_init 75 = .ok (.putfield 37, 3) := by decide +kernel
theorem dX6_init_78 : decode cX6_init 78 = .ok (.aload_n 0, 1) := by decide +kernel
theorem dX6_init_79 : decode cX6_init 79 = .ok (.aload_n 1, 1) := by decide +kernel
theorem dX6_init_80 : decode cX6_init 80 = .ok (.putfield 40, 3) := by decide +kernel
theorem dX6_init_83 : decode cX6_init 83 = .ok (.return_, 1) := by decide +kernel
theorem dX6_load_0 : decode cX6_load 0 = .ok (.aload_n 0, 1) := by decide +kernel
theorem dX6_load_1 : decode cX6_load 1 = .ok (.aload_n 0, 1) := by decide +kernel
theorem dX6_load_2 : decode cX6_load 2 = .ok (.getfield 40, 3) := by decide +kernel
theorem dX6_load_5 : decode cX6_load 5 = .ok (.getfield 44, 3) := by decide +kernel
theorem dX6_load_8 : decode cX6_load 8 = .ok (.iload_n 1, 1) := by decide +kernel
theorem dX6_load_9 : decode cX6_load 9 = .ok (.iaload, 1) := by decide +kernel
theorem dX6_load_10 : decode cX6_load 10 = .ok (.putfield 49, 3) := by decide +kernel
theorem dX6_load_13 : decode cX6_load 13 = .ok (.aload_n 0, 1) := by decide +kernel
theorem dX6_load_14 : decode cX6_load 14 = .ok (.iconst 0, 1) := by decide +kernel
theorem dX6_load_15 : decode cX6_load 15 = .ok (.putfield 53, 3) := by decide +kernel
theorem dX6_load_18 : decode cX6_load 18 = .ok (.aload_n 0, 1) := by decide +kernel
theorem dX6_load_19 : decode cX6_load 19 = .ok (.iconst 0, 1) := by decide +kernel
theorem dX6_load_20 : decode cX6_load 20 = .ok (.putfield 56, 3) := by decide +kernel
theorem dX6_load_23 : decode cX6_load 23 = .ok (.iconst 0, 1) := by decide +kernel
theorem dX6_load_24 : decode cX6_load 24 = .ok (.istore_n 2, 1) := by decide +kernel
theorem dX6_load_25 : decode cX6_load 25 = .ok (.iload_n 2, 1) := by decide +kernel
theorem dX6_load_26 : decode cX6_load 26 = .ok (.aload_n 0, 1) := by decide +kernel
theorem dX6_load_27 : decode cX6_load 27 = .ok (.getfield 40, 3) := by decide +kernel
theorem dX6_load_30 : decode cX6_load 30 = .ok (.getfield 59, 3) := by decide +kernel
theorem dX6_load_33 : decode cX6_load 33 = .ok (.if_icmp .ge 53, 3) := by decide +kernel
theorem dX6_load_36 : decode cX6_load 36 = .ok (.aload_n 0, 1) := by decide +kernel
theorem dX6_load_37 : decode cX6_load 37 = .ok (.getfield 40, 3) := by decide +kernel
theorem dX6_load_40 : decode cX6_load 40 = .ok (.getfield 62, 3) := by decide +kernel
theorem dX6_load_43 : decode cX6_load 43 = .ok (.iload_n 2, 1) := by decide +kernel
theorem dX6_load_44 : decode cX6_load 44 = .ok (.iaload, 1) := by decide +kernel
theorem dX6_load_45 : decode cX6_load 45 = .ok (.istore_n 3, 1) := by decide +kernel
theorem dX6_load_46 : decode cX6_load 46 = .ok (.aload_n 0, 1) := by decide +kernel
theorem dX6_load_47 : decode cX6_load 47 = .ok (.getfield 40, 3) := by decide +kernel
theorem dX6_load_50 : decode cX6_load 50 = .ok (.getfield 65, 3) := by decide +kernel
theorem dX6_load_53 : decode cX6_load 53 = .ok (.iload_n 1, 1) := by decide +kernel
theorem dX6_load_54 : decode cX6_load 54 = .ok (.aaload, 1) := by decide +kernel
theorem dX6_load_55 : decode cX6_load 55 = .ok (.iload_n 3, 1) := by decide +kernel
theorem dX6_load_56 : decode cX6_load 56 = .ok (.iaload, 1) := by decide +kernel
theorem dX6_load_57 : decode cX6_load 57 = .ok (.istore 4, 2) := by decide +kernel
theorem dX6_load_59 : decode cX6_load 59 = .ok (.iload 4, 2) := by decide +kernel
theorem dX6_load_61 : decode cX6_load 61 = .ok (.ifCond .eq 19, 3) := by decide +kernel
theorem dX6_load_64 : decode cX6_load 64 = .ok (.aload_n 0, 1) := by decide +kernel
theorem dX6_load_65 : decode cX6_load 65 = .ok (.iload_n 3, 1) := by decide +kernel
theorem dX6_load_66 : decode cX6_load 66 = .ok (.iload 4, 2) := by decide +kernel
theorem dX6_load_68 : decode cX6_load 68 = .ok (.iconst 1, 1) := by decide +kernel
theorem dX6_load_69 : decode cX6_load 69 = .ok (.if_icmp .ne 7, 3) := by decide +kernel
theorem dX6_load_72 : decode cX6_load 72 = .ok (.iconst 1, 1) := by decide +kernel
theorem dX6_load_73 : decode cX6_load 73 = .ok (.goto 4, 3) := by decide +kernel
theorem dX6_load_76 : decode cX6_load 76 = .ok (.iconst 0, 1) := by decide +kernel
theorem dX6_load_77 : decode cX6_load 77 = .ok (.invokevirtual 69, 3) := by decide +kernel
theorem dX6_load_80 : decode cX6_load 80 = .ok (.iinc 2 1, 3) := by decide +kernel
theorem dX6_load_83 : decode cX6_load 83 = .ok (.goto (-58), 3) := by decide +kernel
theorem dX6_load_86 : decode cX6_load 86 = .ok (.return_, 1) := by decide +kernel
theorem dX6_append_0 : decode cX6_append 0 = .ok (.aload_n 0, 1) := by decide +kernel
theorem dX6_append_1 : decode cX6_append 1 = .ok (.getfield 53, 3) := by decide +kernel
theorem dX6_append_4 : decode cX6_append 4 = .ok (.bipush 24, 2) := by decide +kernel
theorem dX6_append_6 : decode cX6_append 6 = .ok (.if_icmp .lt 4, 3) := by decide +kernel
theorem dX6_append_9 : decode cX6_append 9 = .ok (.return_, 1) := by decide +kernel
theorem dX6_append_10 : decode cX6_append 10 = .ok (.aload_n 0, 1) := by decide +kernel
theorem dX6_append_11 : decode cX6_append 11 = .ok (.getfield 53, 3) := by decide +kernel
theorem dX6_append_14 : decode cX6_append 14 = .ok (.ifCond .ne 7, 3) := by decide +kernel
theorem dX6_append_17 : decode cX6_append 17 = .ok (.iconst 0, 1) := by decide +kernel
theorem dX6_append_18 : decode cX6_append 18 = .ok (.goto 32, 3) := by decide +kernel
theorem dX6_append_21 : decode cX6_append 21 = .ok (.aload_n 0, 1) := by decide +kernel
theorem dX6_append_22 : decode cX6_append 22 = .ok (.getfield 40, 3) := by decide +kernel
theorem dX6_append_25 : decode cX6_append 25 = .ok (.getfield 73, 3) := by decide +kernel
theorem dX6_append_28 : decode cX6_append 28 = .ok (.iload_n 1, 1) := by decide +kernel
theorem dX6_append_29 : decode cX6_append 29 = .ok (.iaload, 1) := by decide +kernel
theorem dX6_append_30 : decode cX6_append 30 = .ok (.aload_n 0, 1) := by decide +kernel
theorem dX6_append_31 : decode cX6_append 31 = .ok (.getfield 40, 3) := by decide +kernel
theorem dX6_append_34 : decode cX6_append 34 = .ok (.getfield 76, 3) := by decide +kernel
theorem dX6_append_37 : decode cX6_append 37 = .ok (.aload_n 0, 1) := by decide +kernel
theorem dX6_append_38 : decode cX6_append 38 = .ok (.getfield 9, 3) := by decide +kernel
theorem dX6_append_41 : decode cX6_append 41 = .ok (.aload_n 0, 1) := by decide +kernel
theorem dX6_append_42 : decode cX6_append 42 = .ok (.getfield 53, 3) := by decide +kernel
theorem dX6_append_45 : decode cX6_append 45 = .ok (.iconst 1, 1) := by decide +kernel
theorem dX6_append_46 : decode cX6_append 46 = .ok (.isub, 1) := by decide +kernel
theorem dX6_append_47 : decode cX6_append 47 = .ok (.iaload, 1) := by decide +kernel
theorem dX6_append_48 : decode cX6_append 48 = .ok (.iaload, 1) := by decide +kernel
theorem dX6_append_49 : decode cX6_append 49 = .ok (.isub, 1) := by decide +kernel
theorem dX6_append_50 : decode cX6_append 50 = .ok (.istore_n 3, 1) := by decide +kernel
theorem dX6_append_51 : decode cX6_append 51 = .ok (.aload_n 0, 1) := by decide +kernel
theorem dX6_append_52 : decode cX6_append 52 = .ok (.getfield 53, 3) := by decide +kernel
theorem dX6_append_55 : decode cX6_append 55 = .ok (.ifCond .eq 16, 3) := by decide +kernel
theorem dX6_append_58 : decode cX6_append 58 = .ok (.iload_n 3, 1) := by decide +kernel
theorem dX6_append_59 : decode cX6_append 59 = .ok (.aload_n 0, 1) := by decide +kernel
theorem dX6_append_60 : decode cX6_append 60 = .ok (.getfield 40, 3) := by decide +kernel
theorem dX6_append_63 : decode cX6_append 63 = .ok (.getfield 79, 3) := by decide +kernel
theorem dX6_append_66 : decode cX6_append 66 = .ok (.iconst 1, 1) := by decide +kernel
theorem dX6_append_67 : decode cX6_append 67 = .ok (.iaload, 1) := by decide +kernel
theorem dX6_append_68 : decode cX6_append 68 = .ok (.if_icmp .lt 36, 3) := by decide +kernel
theorem dX6_append_71 : decode cX6_append 71 = .ok (.aload_n 0, 1) := by decide +kernel
theorem dX6_append_72 : decode cX6_append 72 = .ok (.getfield 25, 3) := by decide +kernel
theorem dX6_append_75 : decode cX6_append 75 = .ok (.aload_n 0, 1) := by decide +kernel
theorem dX6_append_76 : decode cX6_append 76 = .ok (.getfield 56, 3) := by decide +kernel
theorem dX6_append_79 : decode cX6_append 79 = .ok (.aload_n 0, 1) := by decide +kernel
theorem dX6_append_80 : decode cX6_append 80 = .ok (.getfield 53, 3) := by decide +kernel
theorem dX6_append_83 : decode cX6_append 83 = .ok (.iastore, 1) := by decide +kernel
theorem dX6_append_84 : decode cX6_append 84 = .ok (.aload_n 0, 1) := by decide +kernel
theorem dX6_append_85 : decode cX6_append 85 = .ok (.getfield 31, 3) := by decide +kernel
theorem dX6_append_88 : decode cX6_append 88 = .ok (.aload_n 0, 1) := by decide +kernel
theorem dX6_append_89 : decode cX6_append 89 = .ok (.getfield 56, 3) := by decide +kernel
theorem dX6_append_92 : decode cX6_append 92 = .ok (.iconst 0, 1) := by decide +kernel
theorem dX6_append_93 : decode cX6_append 93 = .ok (.iastore, 1) := by decide +kernel
theorem dX6_append_94 : decode cX6_append 94 = .ok (.aload_n 0, 1) := by decide +kernel
theorem dX6_append_95 : decode cX6_append 95 = .ok (.dup, 1) := by decide +kernel
theorem dX6_append_96 : decode cX6_append 96 = .ok (.getfield 56, 3) := by decide +kernel
theorem dX6_append_99 : decode cX6_append 99 = .ok (.iconst 1, 1) := by decide +kernel
theorem dX6_append_100 : decode cX6_append 100 = .ok (.iadd, 1) := by decide +kernel
theorem dX6_append_101 : decode cX6_append 101 = .ok (.putfield 56, 3) := by decide +kernel
theorem dX6_append_104 : decode cX6_append 104 = .ok (.aload_n 0, 1) := by decide +kernel
theorem dX6_append_105 : decode cX6_append 105 = .ok (.getfield 56, 3) := by decide +kernel
theorem dX6_append_108 : decode cX6_append 108 = .ok (.iconst 1, 1) := by decide +kernel
theorem dX6_append_109 : decode cX6_append 109 = .ok (.isub, 1) := by decide +kernel
theorem dX6_append_110 : decode cX6_append 110 = .ok (.istore 4, 2) := by decide +kernel
theorem dX6_append_112 : decode cX6_append 112 = .ok (.aload_n 0, 1) := by decide +kernel
theorem dX6_append_113 : decode cX6_append 113 = .ok (.getfield 28, 3) := by decide +kernel
theorem dX6_append_116 : decode cX6_append 116 = .ok (.iload 4, 2) := by decide +kernel
theorem dX6_append_118 : decode cX6_append 118 = .ok (.aload_n 0, 1) := by decide +kernel
theorem dX6_append_119 : decode cX6_append 119 = .ok (.getfield 53, 3) := by decide +kernel
theorem dX6_append_122 : decode cX6_append 122 = .ok (.iastore, 1) := by decide +kernel
theorem dX6_append_123 : decode cX6_append 123 = .ok (.iload_n 2, 1) := by decide +kernel
theorem dX6_append_124 : decode cX6_append 124 = .ok (.ifCond .eq 32, 3) := by decide +kernel
theorem dX6_append_127 : decode cX6_append 127 = .ok (.aload_n 0, 1) := by decide +kernel
theorem dX6_append_128 : decode cX6_append 128 = .ok (.getfield 31, 3) := by decide +kernel
theorem dX6_append_131 : decode cX6_append 131 = .ok (.iload 4, 2) := by decide +kernel
theorem dX6_append_133 : decode cX6_append 133 = .ok (.dup2, 1) := by decide +kernel
theorem dX6_append_134 : decode cX6_append 134 = .ok (.iaload, 1) := by decide +kernel
theorem dX6_append_135 : decode cX6_append 135 = .ok (.aload_n 0, 1) := by decide +kernel
theorem dX6_append_136 : decode cX6_append 136 = .ok (.getfield 40, 3) := by decide +kernel
theorem dX6_append_139 : decode cX6_append 139 = .ok (.getfield 76, 3) := by decide +kernel
theorem dX6_append_142 : decode cX6_append 142 = .ok (.iload_n 1, 1) := by decide +kernel
theorem dX6_append_143 : decode cX6_append 143 = .ok (.iaload, 1) := by decide +kernel
theorem dX6_append_144 : decode cX6_append 144 = .ok (.aload_n 0, 1) := by decide +kernel
theorem dX6_append_145 : decode cX6_append 145 = .ok (.getfield 40, 3) := by decide +kernel
theorem dX6_append_148 : decode cX6_append 148 = .ok (.getfield 73, 3) := by decide +kernel
theorem dX6_append_151 : decode cX6_append 151 = .ok (.iload_n 1, 1) := by decide +kernel
theorem dX6_append_152 : decode cX6_append 152 = .ok (.iaload, 1) := by decide +kernel
theorem dX6_append_153 : decode cX6_append 153 = .ok (.isub, 1) := by decide +kernel
theorem dX6_append_154 : decode cX6_append 154 = .ok (.iadd, 1) := by decide +kernel
theorem dX6_append_155 : decode cX6_append 155 = .ok (.iastore, 1) := by decide +kernel
theorem dX6_append_156 : decode cX6_append 156 = .ok (.aload_n 0, 1) := by decide +kernel
theorem dX6_append_157 : decode cX6_append 157 = .ok (.getfield 9, 3) := by decide +kernel
theorem dX6_append_160 : decode cX6_append 160 = .ok (.aload_n 0, 1) := by decide +kernel
theorem dX6_append_161 : decode cX6_append 161 = .ok (.getfield 53, 3) := by decide +kernel
theorem dX6_append_164 : decode cX6_append 164 = .ok (.iload_n 1, 1) := by decide +kernel
theorem dX6_append_165 : decode cX6_append 165 = .ok (.iastore, 1) := by decide +kernel
theorem dX6_append_166 : decode cX6_append 166 = .ok (.aload_n 0, 1) := by decide +kernel
theorem dX6_append_167 : decode cX6_append 167 = .ok (.getfield 15, 3) := by decide +kernel
theorem dX6_append_170 : decode cX6_append 170 = .ok (.aload_n 0, 1) := by decide +kernel
theorem dX6_append_171 : decode cX6_append 171 = .ok (.getfield 53, 3) := by decide +kernel
theorem dX6_append_174 : decode cX6_append 174 = .ok (.iload_n 2, 1) := by decide +kernel
theorem dX6_append_175 : decode cX6_append 175 = .ok (.bastore, 1) := by decide +kernel
theorem dX6_append_176 : decode cX6_append 176 = .ok (.aload_n 0, 1) := by decide +kernel
theorem dX6_append_177 : decode cX6_append 177 = .ok (.getfield 19, 3) := by decide +kernel
theorem dX6_append_180 : decode cX6_append 180 = .ok (.aload_n 0, 1) := by decide +kernel
theorem dX6_append_181 : decode cX6_append 181 = .ok (.getfield 53, 3) := by decide +kernel
theorem dX6_append_184 : decode cX6_append 184 = .ok (.iload_n 3, 1) := by decide +kernel
theorem dX6_append_185 : decode cX6_append 185 = .ok (.iastore, 1) := by decide +kernel
theorem dX6_append_186 : decode cX6_append 186 = .ok (.aload_n 0, 1) := by decide +kernel
theorem dX6_append_187 : decode cX6_append 187 = .ok (.getfield 22, 3) := by decide +kernel
theorem dX6_append_190 : decode cX6_append 190 = .ok (.aload_n 0, 1) := by decide +kernel
theorem dX6_append_191 : decode cX6_append 191 = .ok (.getfield 53, 3) := by decide +kernel
theorem dX6_append_194 : decode cX6_append 194 = .ok (.iload 4, 2) := by decide +kernel
theorem dX6_append_196 : decode cX6_append 196 = .ok (.iastore, 1) := by decide +kernel
theorem dX6_append_197 : decode cX6_append 197 = .ok (.aload_n 0, 1) := by decide +kernel
theorem dX6_append_198 : decode cX6_append 198 = .ok (.dup, 1) := by decide +kernel
theorem dX6_append_199 : decode cX6_append 199 = .ok (.getfield 53, 3) := by decide +kernel
theorem dX6_append_202 : decode cX6_append 202 = .ok (.iconst 1, 1) := by decide +kernel
theorem dX6_append_203 : decode cX6_append 203 = .ok (.iadd, 1) := by decide +kernel
theorem dX6_append_204 : decode cX6_append 204 = .ok (.putfield 53, 3) := by decide +kernel
theorem dX6_append_207 : decode cX6_append 207 = .ok (.return_, 1) := by decide +kernel
theorem dX6_removeLast_0 : decode cX6_removeLast 0 = .ok (.aload_n 0, 1) := by decide +kernel
theorem dX6_removeLast_1 : decode cX6_removeLast 1 = .ok (.getfield 53, 3) := by decide +kernel
theorem dX6_removeLast_4 : decode cX6_removeLast 4 = .ok (.ifCond .ne 4, 3) := by decide +kernel
theorem dX6_removeLast_7 : decode cX6_removeLast 7 = .ok (.return_, 1) := by decide +kernel
theorem dX6_removeLast_8 : decode cX6_removeLast 8 = .ok (.aload_n 0, 1) := by decide +kernel
theorem dX6_removeLast_9 : decode cX6_removeLast 9 = .ok (.dup, 1) := by decide +kernel
theorem dX6_removeLast_10 : decode cX6_removeLast 10 = .ok (.getfield 53, 3) := by decide +kernel
theorem dX6_removeLast_13 : decode cX6_removeLast 13 = .ok (.iconst 1, 1) := by decide +kernel
theorem dX6_removeLast_14 : decode cX6_removeLast 14 = .ok (.isub, 1) := by decide +kernel
theorem dX6_removeLast_15 : decode cX6_removeLast 15 = .ok (.putfield 53, 3) := by decide +kernel
theorem dX6_removeLast_18 : decode cX6_removeLast 18 = .ok (.aload_n 0, 1) := by decide +kernel
theorem dX6_removeLast_19 : decode cX6_removeLast 19 = .ok (.getfield 22, 3) := by decide +kernel
theorem dX6_removeLast_22 : decode cX6_removeLast 22 = .ok (.aload_n 0, 1) := by decide +kernel
theorem dX6_removeLast_23 : decode cX6_removeLast 23 = .ok (.getfield 53, 3) := by decide +kernel
theorem dX6_removeLast_26 : decode cX6_removeLast 26 = .ok (.iaload, 1) := by decide +kernel
theorem dX6_removeLast_27 : decode cX6_removeLast 27 = .ok (.istore_n 1, 1) := by decide +kernel
theorem dX6_removeLast_28 : decode cX6_removeLast 28 = .ok (.aload_n 0, 1) := by decide +kernel
theorem dX6_removeLast_29 : decode cX6_removeLast 29 = .ok (.getfield 25, 3) := by decide +kernel
theorem dX6_removeLast_32 : decode cX6_removeLast 32 = .ok (.iload_n 1, 1) := by decide +kernel
theorem dX6_removeLast_33 : decode cX6_removeLast 33 = .ok (.iaload, 1) := by decide +kernel
theorem dX6_removeLast_34 : decode cX6_removeLast 34 = .ok (.aload_n 0, 1) := by decide +kernel
theorem dX6_removeLast_35 : decode cX6_removeLast 35 = .ok (.getfield 53, 3) := by decide +kernel
theorem dX6_removeLast_38 : decode cX6_removeLast 38 = .ok (.if_icmp .ne 14, 3) := by decide +kernel
theorem dX6_removeLast_41 : decode cX6_removeLast 41 = .ok (.aload_n 0, 1) := by decide +kernel
theorem dX6_removeLast_42 : decode cX6_removeLast 42 = .ok (.dup, 1) := by decide +kernel
theorem dX6_removeLast_43 : decode cX6_removeLast 43 = .ok (.getfield 56, 3) := by decide +kernel
theorem dX6_removeLast_46 : decode cX6_removeLast 46 = .ok (.iconst 1, 1) := by decide +kernel
theorem dX6_removeLast_47 : decode cX6_removeLast 47 = .ok (.isub, 1) := by decide +kernel
theorem dX6_removeLast_48 : decode cX6_removeLast 48 = .ok (.putfield 56, 3) := by decide +kernel
theorem dX6_removeLast_51 : decode cX6_removeLast 51 = .ok (.return_, 1) := by decide +kernel
theorem dX6_removeLast_52 : decode cX6_removeLast 52 = .ok (.aload_n 0, 1) := by decide +kernel
theorem dX6_removeLast_53 : decode cX6_removeLast 53 = .ok (.getfield 28, 3) := by decide +kernel
theorem dX6_removeLast_56 : decode cX6_removeLast 56 = .ok (.iload_n 1, 1) := by decide +kernel
theorem dX6_removeLast_57 : decode cX6_removeLast 57 = .ok (.aload_n 0, 1) := by decide +kernel
theorem dX6_removeLast_58 : decode cX6_removeLast 58 = .ok (.getfield 53, 3) := by decide +kernel
theorem dX6_removeLast_61 : decode cX6_removeLast 61 = .ok (.iconst 1, 1) := by decide +kernel
theorem dX6_removeLast_62 : decode cX6_removeLast 62 = .ok (.isub, 1) := by decide +kernel
theorem dX6_removeLast_63 : decode cX6_removeLast 63 = .ok (.iastore, 1) := by decide +kernel
theorem dX6_removeLast_64 : decode cX6_removeLast 64 = .ok (.aload_n 0, 1) := by decide +kernel
theorem dX6_removeLast_65 : decode cX6_removeLast 65 = .ok (.getfield 15, 3) := by decide +kernel
theorem dX6_removeLast_68 : decode cX6_removeLast 68 = .ok (.aload_n 0, 1) := by decide +kernel
theorem dX6_removeLast_69 : decode cX6_removeLast 69 = .ok (.getfield 53, 3) := by decide +kernel
theorem dX6_removeLast_72 : decode cX6_removeLast 72 = .ok (.baload, 1) := by decide +kernel
theorem dX6_removeLast_73 : decode cX6_removeLast 73 = .ok (.ifCond .eq 28, 3) := by decide +kernel
theorem dX6_removeLast_76 : decode cX6_removeLast 76 = .ok (.aload_n 0, 1) := by decide +kernel
theorem dX6_removeLast_77 : decode cX6_removeLast 77 = .ok (.getfield 31, 3) := by decide +kernel
theorem dX6_removeLast_80 : decode cX6_removeLast 80 = .ok (.iload_n 1, 1) := by decide +kernel
theorem dX6_removeLast_81 : decode cX6_removeLast 81 = .ok (.dup2, 1) := by decide +kernel
theorem dX6_removeLast_82 : decode cX6_removeLast 82 = .ok (.iaload, 1) := by decide +kernel
theorem dX6_removeLast_83 : decode cX6_removeLast 83 = .ok (.aload_n 0, 1) := by decide +kernel
theorem dX6_removeLast_84 : decode cX6_removeLast 84 = .ok (.getfield 40, 3) := by decide +kernel
theorem dX6_removeLast_87 : decode cX6_removeLast 87 = .ok (.aload_n 0, 1) := by decide +kernel
theorem dX6_removeLast_88 : decode cX6_removeLast 88 = .ok (.getfield 9, 3) := by decide +kernel
theorem dX6_removeLast_91 : decode cX6_removeLast 91 = .ok (.aload_n 0, 1) := by decide +kernel
theorem dX6_removeLast_92 : decode cX6_removeLast 92 = .ok (.getfield 53, 3) := by decide +kernel
theorem dX6_removeLast_95 : decode cX6_removeLast 95 = .ok (.iaload, 1) := by decide +kernel
theorem dX6_removeLast_96 : decode cX6_removeLast 96 = .ok (.invokevirtual 82, 3) := by decide +kernel
theorem dX6_removeLast_99 : decode cX6_removeLast 99 = .ok (.isub, 1) := by decide +kernel
theorem dX6_removeLast_100 : decode cX6_removeLast 100 = .ok (.iastore, 1) := by decide +kernel
theorem dX6_removeLast_101 : decode cX6_removeLast 101 = .ok (.return_, 1) := by decide +kernel
theorem dX6_positionOf_0 : decode cX6_positionOf 0 = .ok (.iconst 0, 1) := by decide +kernel
theorem dX6_positionOf_1 : decode cX6_positionOf 1 = .ok (.istore_n 2, 1) := by decide +kernel
theorem dX6_positionOf_2 : decode cX6_positionOf 2 = .ok (.iload_n 2, 1) := by decide +kernel
theorem dX6_positionOf_3 : decode cX6_positionOf 3 = .ok (.aload_n 0, 1) := by decide +kernel
theorem dX6_positionOf_4 : decode cX6_positionOf 4 = .ok (.getfield 53, 3) := by decide +kernel
theorem dX6_positionOf_7 : decode cX6_positionOf 7 = .ok (.if_icmp .ge 21, 3) := by decide +kernel
theorem dX6_positionOf_10 : decode cX6_positionOf 10 = .ok (.aload_n 0, 1) := by decide +kernel
theorem dX6_positionOf_11 : decode cX6_positionOf 11 = .ok (.getfield 9, 3) := by decide +kernel
theorem dX6_positionOf_14 : decode cX6_positionOf 14 = .ok (.iload_n 2, 1) := by decide +kernel
theorem dX6_positionOf_15 : decode cX6_positionOf 15 = .ok (.iaload, 1) := by decide +kernel
theorem dX6_positionOf_16 : decode cX6_positionOf 16 = .ok (.iload_n 1, 1) := by decide +kernel
theorem dX6_positionOf_17 : decode cX6_positionOf 17 = .ok (.if_icmp .ne 5, 3) := by decide +kernel
theorem dX6_positionOf_20 : decode cX6_positionOf 20 = .ok (.iload_n 2, 1) := by decide +kernel
theorem dX6_positionOf_21 : decode cX6_positionOf 21 = .ok (.ireturn, 1) := by decide +kernel
theorem dX6_positionOf_22 : decode cX6_positionOf 22 = .ok (.iinc 2 1, 3) := by decide +kernel
theorem dX6_positionOf_25 : decode cX6_positionOf 25 = .ok (.goto (-23), 3) := by decide +kernel
theorem dX6_positionOf_28 : decode cX6_positionOf 28 = .ok (.bipush (-2), 2) := by decide +kernel
theorem dX6_positionOf_30 : decode cX6_positionOf 30 = .ok (.ireturn, 1) := by decide +kernel
theorem dX6_spanOf_0 : decode cX6_spanOf 0 = .ok (.aload_n 0, 1) := by decide +kernel
theorem dX6_spanOf_1 : decode cX6_spanOf 1 = .ok (.getfield 40, 3) := by decide +kernel
theorem dX6_spanOf_4 : decode cX6_spanOf 4 = .ok (.getfield 76, 3) := by decide +kernel
theorem dX6_spanOf_7 : decode cX6_spanOf 7 = .ok (.aload_n 0, 1) := by decide +kernel
theorem dX6_spanOf_8 : decode cX6_spanOf 8 = .ok (.getfield 9, 3) := by decide +kernel
theorem dX6_spanOf_11 : decode cX6_spanOf 11 = .ok (.aload_n 0, 1) := by decide +kernel
theorem dX6_spanOf_12 : decode cX6_spanOf 12 = .ok (.getfield 28, 3) := by decide +kernel
theorem dX6_spanOf_15 : decode cX6_spanOf 15 = .ok (.iload_n 1, 1) := by decide +kernel
theorem dX6_spanOf_16 : decode cX6_spanOf 16 = .ok (.iaload, 1) := by decide +kernel
theorem dX6_spanOf_17 : decode cX6_spanOf 17 = .ok (.iaload, 1) := by decide +kernel
theorem dX6_spanOf_18 : decode cX6_spanOf 18 = .ok (.iaload, 1) := by decide +kernel
theorem dX6_spanOf_19 : decode cX6_spanOf 19 = .ok (.aload_n 0, 1) := by decide +kernel
theorem dX6_spanOf_20 : decode cX6_spanOf 20 = .ok (.getfield 40, 3) := by decide +kernel
theorem dX6_spanOf_23 : decode cX6_spanOf 23 = .ok (.getfield 73, 3) := by decide +kernel
theorem dX6_spanOf_26 : decode cX6_spanOf 26 = .ok (.aload_n 0, 1) := by decide +kernel
theorem dX6_spanOf_27 : decode cX6_spanOf 27 = .ok (.getfield 9, 3) := by decide +kernel
theorem dX6_spanOf_30 : decode cX6_spanOf 30 = .ok (.aload_n 0, 1) := by decide +kernel
theorem dX6_spanOf_31 : decode cX6_spanOf 31 = .ok (.getfield 25, 3) := by decide +kernel
theorem dX6_spanOf_34 : decode cX6_spanOf 34 = .ok (.iload_n 1, 1) := by decide +kernel
theorem dX6_spanOf_35 : decode cX6_spanOf 35 = .ok (.iaload, 1) := by decide +kernel
theorem dX6_spanOf_36 : decode cX6_spanOf 36 = .ok (.iaload, 1) := by decide +kernel
theorem dX6_spanOf_37 : decode cX6_spanOf 37 = .ok (.iaload, 1) := by decide +kernel
theorem dX6_spanOf_38 : decode cX6_spanOf 38 = .ok (.isub, 1) := by decide +kernel
theorem dX6_spanOf_39 : decode cX6_spanOf 39 = .ok (.ireturn, 1) := by decide +kernel
theorem dX6_sizeOf_0 : decode cX6_sizeOf 0 = .ok (.aload_n 0, 1) := by decide +kernel
theorem dX6_sizeOf_1 : decode cX6_sizeOf 1 = .ok (.getfield 28, 3) := by decide +kernel
theorem dX6_sizeOf_4 : decode cX6_sizeOf 4 = .ok (.iload_n 1, 1) := by decide +kernel
theorem dX6_sizeOf_5 : decode cX6_sizeOf 5 = .ok (.iaload, 1) := by decide +kernel
theorem dX6_sizeOf_6 : decode cX6_sizeOf 6 = .ok (.aload_n 0, 1) := by decide +kernel
theorem dX6_sizeOf_7 : decode cX6_sizeOf 7 = .ok (.getfield 25, 3) := by decide +kernel
theorem dX6_sizeOf_10 : decode cX6_sizeOf 10 = .ok (.iload_n 1, 1) := by decide +kernel
theorem dX6_sizeOf_11 : decode cX6_sizeOf 11 = .ok (.iaload, 1) := by decide +kernel
theorem dX6_sizeOf_12 : decode cX6_sizeOf 12 = .ok (.isub, 1) := by decide +kernel
theorem dX6_sizeOf_13 : decode cX6_sizeOf 13 = .ok (.iconst 1, 1) := by decide +kernel
theorem dX6_sizeOf_14 : decode cX6_sizeOf 14 = .ok (.iadd, 1) := by decide +kernel
theorem dX6_sizeOf_15 : decode cX6_sizeOf 15 = .ok (.ireturn, 1) := by decide +kernel
theorem dX6_flownWithin_0 : decode cX6_flownWithin 0 = .ok (.iconst 0, 1) := by decide +kernel
theorem dX6_flownWithin_1 : decode cX6_flownWithin 1 = .ok (.istore_n 3, 1) := by decide +kernel
theorem dX6_flownWithin_2 : decode cX6_flownWithin 2 = .ok (.iconst 0, 1) := by decide +kernel
theorem dX6_flownWithin_3 : decode cX6_flownWithin 3 = .ok (.istore 4, 2) := by decide +kernel
theorem dX6_flownWithin_5 : decode cX6_flownWithin 5 = .ok (.iload 4, 2) := by decide +kernel
theorem dX6_flownWithin_7 : decode cX6_flownWithin 7 = .ok (.aload_n 0, 1) := by decide +kernel
theorem dX6_flownWithin_8 : decode cX6_flownWithin 8 = .ok (.getfield 53, 3) := by decide +kernel
theorem dX6_flownWithin_11 : decode cX6_flownWithin 11 = .ok (.if_icmp .ge 107, 3) := by decide +kernel
theorem dX6_flownWithin_14 : decode cX6_flownWithin 14 = .ok (.aload_n 0, 1) := by decide +kernel
theorem dX6_flownWithin_15 : decode cX6_flownWithin 15 = .ok (.getfield 9, 3) := by decide +kernel
theorem dX6_flownWithin_18 : decode cX6_flownWithin 18 = .ok (.iload 4, 2) := by decide +kernel
theorem dX6_flownWithin_20 : decode cX6_flownWithin 20 = .ok (.iaload, 1) := by decide +kernel
theorem dX6_flownWithin_21 : decode cX6_flownWithin 21 = .ok (.istore 5, 2) := by decide +kernel
theorem dX6_flownWithin_23 : decode cX6_flownWithin 23 = .ok (.aload_n 0, 1) := by decide +kernel
theorem dX6_flownWithin_24 : decode cX6_flownWithin 24 = .ok (.getfield 40, 3) := by decide +kernel
theorem dX6_flownWithin_27 : decode cX6_flownWithin 27 = .ok (.getfield 73, 3) := by decide +kernel
theorem dX6_flownWithin_30 : decode cX6_flownWithin 30 = .ok (.iload 5, 2) := by decide +kernel
theorem dX6_flownWithin_32 : decode cX6_flownWithin 32 = .ok (.iaload, 1) := by decide +kernel
theorem dX6_flownWithin_33 : decode cX6_flownWithin 33 = .ok (.iload_n 1, 1) := by decide +kernel
theorem dX6_flownWithin_34 : decode cX6_flownWithin 34 = .ok (.if_icmp .le 16, 3) := by decide +kernel
theorem dX6_flownWithin_37 : decode cX6_flownWithin 37 = .ok (.aload_n 0, 1) := by decide +kernel
theorem dX6_flownWithin_38 : decode cX6_flownWithin 38 = .ok (.getfield 40, 3) := by decide +kernel
theorem dX6_flownWithin_41 : decode cX6_flownWithin 41 = .ok (.getfield 73, 3) := by decide +kernel
theorem dX6_flownWithin_44 : decode cX6_flownWithin 44 = .ok (.iload 5, 2) := by decide +kernel
theorem dX6_flownWithin_46 : decode cX6_flownWithin 46 = .ok (.iaload, 1) := by decide +kernel
theorem dX6_flownWithin_47 : decode cX6_flownWithin 47 = .ok (.goto 4, 3) := by decide +kernel
theorem dX6_flownWithin_50 : decode cX6_flownWithin 50 = .ok (.iload_n 1, 1) := by decide +kernel
theorem dX6_flownWithin_51 : decode cX6_flownWithin 51 = .ok (.istore 6, 2) := by decide +kernel
theorem dX6_flownWithin_53 : decode cX6_flownWithin 53 = .ok (.aload_n 0, 1) := by decide +kernel
theorem dX6_flownWithin_54 : decode cX6_flownWithin 54 = .ok (.getfield 40, 3) := by decide +kernel
theorem dX6_flownWithin_57 : decode cX6_flownWithin 57 = .ok (.getfield 76, 3) := by decide +kernel
theorem dX6_flownWithin_60 : decode cX6_flownWithin 60 = .ok (.iload 5, 2) := by decide +kernel
theorem dX6_flownWithin_62 : decode cX6_flownWithin 62 = .ok (.iaload, 1) := by decide +kernel
theorem dX6_flownWithin_63 : decode cX6_flownWithin 63 = .ok (.iload_n 1, 1) := by decide +kernel
theorem dX6_flownWithin_64 : decode cX6_flownWithin 64 = .ok (.iload_n 2, 1) := by decide +kernel
theorem dX6_flownWithin_65 : decode cX6_flownWithin 65 = .ok (.iadd, 1) := by decide +kernel
theorem dX6_flownWithin_66 : decode cX6_flownWithin 66 = .ok (.if_icmp .ge 16, 3) := by decide +kernel
theorem dX6_flownWithin_69 : decode cX6_flownWithin 69 = .ok (.aload_n 0, 1) := by decide +kernel
theorem dX6_flownWithin_70 : decode cX6_flownWithin 70 = .ok (.getfield 40, 3) := by decide +kernel
theorem dX6_flownWithin_73 : decode cX6_flownWithin 73 = .ok (.getfield 76, 3) := by decide +kernel
theorem dX6_flownWithin_76 : decode cX6_flownWithin 76 = .ok (.iload 5, 2) := by decide +kernel
theorem dX6_flownWithin_78 : decode cX6_flownWithin 78 = .ok (.iaload, 1) := by decide +kernel
theorem dX6_flownWithin_79 : decode cX6_flownWithin 79 = .ok (.goto 6, 3) := by decide +kernel
theorem dX6_flownWithin_82 : decode cX6_flownWithin 82 = .ok (.iload_n 1, 1) := by decide +kernel
theorem dX6_flownWithin_83 : decode cX6_flownWithin 83 = .ok (.iload_n 2, 1) := by decide +kernel
theorem dX6_flownWithin_84 : decode cX6_flownWithin 84 = .ok (.iadd, 1) := by decide +kernel
theorem dX6_flownWithin_85 : decode cX6_flownWithin 85 = .ok (.istore 7, 2) := by decide +kernel
theorem dX6_flownWithin_87 : decode cX6_flownWithin 87 = .ok (.aload_n 0, 1) := by decide +kernel
theorem dX6_flownWithin_88 : decode cX6_flownWithin 88 = .ok (.getfield 15, 3) := by decide +kernel
theorem dX6_flownWithin_91 : decode cX6_flownWithin 91 = .ok (.iload 4, 2) := by decide +kernel
theorem dX6_flownWithin_93 : decode cX6_flownWithin 93 = .ok (.baload, 1) := by decide +kernel
theorem dX6_flownWithin_94 : decode cX6_flownWithin 94 = .ok (.ifCond .eq 18, 3) := by decide +kernel
theorem dX6_flownWithin_97 : decode cX6_flownWithin 97 = .ok (.iload 7, 2) := by decide +kernel
theorem dX6_flownWithin_99 : decode cX6_flownWithin 99 = .ok (.iload 6, 2) := by decide +kernel
theorem dX6_flownWithin_101 : decode cX6_flownWithin 101 = .ok (.if_icmp .le 11, 3) := by decide +kernel
theorem dX6_flownWithin_104 : decode cX6_flownWithin 104 = .ok (.iload_n 3, 1) := by decide +kernel
theorem dX6_flownWithin_105 : decode cX6_flownWithin 105 = .ok (.iload 7, 2) := by decide +kernel
theorem dX6_flownWithin_107 : decode cX6_flownWithin 107 = .ok (.iload 6, 2) := by decide +kernel
theorem dX6_flownWithin_109 : decode cX6_flownWithin 109 = .ok (.isub, 1) := by decide +kernel
theorem dX6_flownWithin_110 : decode cX6_flownWithin 110 = .ok (.iadd, 1) := by decide +kernel
theorem dX6_flownWithin_111 : decode cX6_flownWithin 111 = .ok (.istore_n 3, 1) := by decide +kernel
theorem dX6_flownWithin_112 : decode cX6_flownWithin 112 = .ok (.iinc 4 1, 3) := by decide +kernel
theorem dX6_flownWithin_115 : decode cX6_flownWithin 115 = .ok (.goto (-110), 3) := by decide +kernel
theorem dX6_flownWithin_118 : decode cX6_flownWithin 118 = .ok (.iload_n 3, 1) := by decide +kernel
theorem dX6_flownWithin_119 : decode cX6_flownWithin 119 = .ok (.ireturn, 1) := by decide +kernel
theorem dX6_breaks_0 : decode cX6_breaks 0 = .ok (.aload_n 0, 1) := by decide +kernel
theorem dX6_breaks_1 : decode cX6_breaks 1 = .ok (.getfield 22, 3) := by decide +kernel
theorem dX6_breaks_4 : decode cX6_breaks 4 = .ok (.iload_n 2, 1) := by decide +kernel
theorem dX6_breaks_5 : decode cX6_breaks 5 = .ok (.iaload, 1) := by decide +kernel
theorem dX6_breaks_6 : decode cX6_breaks 6 = .ok (.istore_n 3, 1) := by decide +kernel
theorem dX6_breaks_7 : decode cX6_breaks 7 = .ok (.aload_n 0, 1) := by decide +kernel
theorem dX6_breaks_8 : decode cX6_breaks 8 = .ok (.getfield 25, 3) := by decide +kernel
theorem dX6_breaks_11 : decode cX6_breaks 11 = .ok (.iload_n 3, 1) := by decide +kernel
theorem dX6_breaks_12 : decode cX6_breaks 12 = .ok (.iaload, 1) := by decide +kernel
theorem dX6_breaks_13 : decode cX6_breaks 13 = .ok (.iload_n 2, 1) := by decide +kernel
theorem dX6_breaks_14 : decode cX6_breaks 14 = .ok (.if_icmp .ne 7, 3) := by decide +kernel
theorem dX6_breaks_17 : decode cX6_breaks 17 = .ok (.iconst 1, 1) := by decide +kernel
theorem dX6_breaks_18 : decode cX6_breaks 18 = .ok (.goto 4, 3) := by decide +kernel
theorem dX6_breaks_21 : decode cX6_breaks 21 = .ok (.iconst 0, 1) := by decide +kernel
theorem dX6_breaks_22 : decode cX6_breaks 22 = .ok (.istore 4, 2) := by decide +kernel
theorem dX6_breaks_24 : decode cX6_breaks 24 = .ok (.iload_n 1, 1) := by decide +kernel
theorem dX6_breaks_25 : decode cX6_breaks 25 = .ok (.tableswitch 198 1 5 #[35, 54, 104, 141, 169], 35) := by decide +kernel
theorem dX6_breaks_60 : decode cX6_breaks 60 = .ok (.iload_n 2, 1) := by decide +kernel
theorem dX6_breaks_61 : decode cX6_breaks 61 = .ok (.ifCond .le 16, 3) := by decide +kernel
theorem dX6_breaks_64 : decode cX6_breaks 64 = .ok (.aload_n 0, 1) := by decide +kernel
theorem dX6_breaks_65 : decode cX6_breaks 65 = .ok (.getfield 19, 3) := by decide +kernel
theorem dX6_breaks_68 : decode cX6_breaks 68 = .ok (.iload_n 2, 1) := by decide +kernel
theorem dX6_breaks_69 : decode cX6_breaks 69 = .ok (.iaload, 1) := by decide +kernel
theorem dX6_breaks_70 : decode cX6_breaks 70 = .ok (.ifCond .ge 7, 3) := by decide +kernel
theorem dX6_breaks_73 : decode cX6_breaks 73 = .ok (.iconst 1, 1) := by decide +kernel
theorem dX6_breaks_74 : decode cX6_breaks 74 = .ok (.goto 4, 3) := by decide +kernel
theorem dX6_breaks_77 : decode cX6_breaks 77 = .ok (.iconst 0, 1) := by decide +kernel
theorem dX6_breaks_78 : decode cX6_breaks 78 = .ok (.ireturn, 1) := by decide +kernel
theorem dX6_breaks_79 : decode cX6_breaks 79 = .ok (.aload_n 0, 1) := by decide +kernel
theorem dX6_breaks_80 : decode cX6_breaks 80 = .ok (.getfield 40, 3) := by decide +kernel
theorem dX6_breaks_83 : decode cX6_breaks 83 = .ok (.getfield 86, 3) := by decide +kernel
theorem dX6_breaks_86 : decode cX6_breaks 86 = .ok (.aload_n 0, 1) := by decide +kernel
theorem dX6_breaks_87 : decode cX6_breaks 87 = .ok (.getfield 9, 3) := by decide +kernel
theorem dX6_breaks_90 : decode cX6_breaks 90 = .ok (.iload_n 2, 1) := by decide +kernel
theorem dX6_breaks_91 : decode cX6_breaks 91 = .ok (.iaload, 1) := by decide +kernel
theorem dX6_breaks_92 : decode cX6_breaks 92 = .ok (.iaload, 1) := by decide +kernel
theorem dX6_breaks_93 : decode cX6_breaks 93 = .ok (.iload_n 2, 1) := by decide +kernel
theorem dX6_breaks_94 : decode cX6_breaks 94 = .ok (.ifCond .le 22, 3) := by decide +kernel
theorem dX6_breaks_97 : decode cX6_breaks 97 = .ok (.aload_n 0, 1) := by decide +kernel
theorem dX6_breaks_98 : decode cX6_breaks 98 = .ok (.getfield 40, 3) := by decide +kernel
theorem dX6_breaks_101 : decode cX6_breaks 101 = .ok (.getfield 89, 3) := by decide +kernel
theorem dX6_breaks_104 : decode cX6_breaks 104 = .ok (.aload_n 0, 1) := by decide +kernel
theorem dX6_breaks_105 : decode cX6_breaks 105 = .ok (.getfield 9, 3) := by decide +kernel
theorem dX6_breaks_108 : decode cX6_breaks 108 = .ok (.iload_n 2, 1) := by decide +kernel
theorem dX6_breaks_109 : decode cX6_breaks 109 = .ok (.iconst 1, 1) := by decide +kernel
theorem dX6_breaks_110 : decode cX6_breaks 110 = .ok (.isub, 1) := by decide +kernel
theorem dX6_breaks_111 : decode cX6_breaks 111 = .ok (.iaload, 1) := by decide +kernel
theorem dX6_breaks_112 : decode cX6_breaks 112 = .ok (.iaload, 1) := by decide +kernel
theorem dX6_breaks_113 : decode cX6_breaks 113 = .ok (.goto 7, 3) := by decide +kernel
theorem dX6_breaks_116 : decode cX6_breaks 116 = .ok (.aload_n 0, 1) := by decide +kernel
theorem dX6_breaks_117 : decode cX6_breaks 117 = .ok (.getfield 49, 3) := by decide +kernel
theorem dX6_breaks_120 : decode cX6_breaks 120 = .ok (.if_icmp .eq 7, 3) := by decide +kernel
theorem dX6_breaks_123 : decode cX6_breaks 123 = .ok (.iconst 1, 1) := by decide +kernel
theorem dX6_breaks_124 : decode cX6_breaks 124 = .ok (.goto 4, 3) := by decide +kernel
theorem dX6_breaks_127 : decode cX6_breaks 127 = .ok (.iconst 0, 1) := by decide +kernel
theorem dX6_breaks_128 : decode cX6_breaks 128 = .ok (.ireturn, 1) := by decide +kernel
theorem dX6_breaks_129 : decode cX6_breaks 129 = .ok (.iload_n 2, 1) := by decide +kernel
theorem dX6_breaks_130 : decode cX6_breaks 130 = .ok (.ifCond .le 34, 3) := by decide +kernel
theorem dX6_breaks_133 : decode cX6_breaks 133 = .ok (.aload_n 0, 1) := by decide +kernel
theorem dX6_breaks_134 : decode cX6_breaks 134 = .ok (.getfield 19, 3) := by decide +kernel
theorem dX6_breaks_137 : decode cX6_breaks 137 = .ok (.iload_n 2, 1) := by decide +kernel
theorem dX6_breaks_138 : decode cX6_breaks 138 = .ok (.iaload, 1) := by decide +kernel
theorem dX6_breaks_139 : decode cX6_breaks 139 = .ok (.ifCond .lt 25, 3) := by decide +kernel
theorem dX6_breaks_142 : decode cX6_breaks 142 = .ok (.aload_n 0, 1) := by decide +kernel
theorem dX6_breaks_143 : decode cX6_breaks 143 = .ok (.getfield 19, 3) := by decide +kernel
theorem dX6_breaks_146 : decode cX6_breaks 146 = .ok (.iload_n 2, 1) := by decide +kernel
theorem dX6_breaks_147 : decode cX6_breaks 147 = .ok (.iaload, 1) := by decide +kernel
theorem dX6_breaks_148 : decode cX6_breaks 148 = .ok (.aload_n 0, 1) := by decide +kernel
theorem dX6_breaks_149 : decode cX6_breaks 149 = .ok (.getfield 40, 3) := by decide +kernel
theorem dX6_breaks_152 : decode cX6_breaks 152 = .ok (.getfield 79, 3) := by decide +kernel
theorem dX6_breaks_155 : decode cX6_breaks 155 = .ok (.iconst 0, 1) := by decide +kernel
theorem dX6_breaks_156 : decode cX6_breaks 156 = .ok (.iaload, 1) := by decide +kernel
theorem dX6_breaks_157 : decode cX6_breaks 157 = .ok (.if_icmp .ge 7, 3) := by decide +kernel
theorem dX6_breaks_160 : decode cX6_breaks 160 = .ok (.iconst 1, 1) := by decide +kernel
theorem dX6_breaks_161 : decode cX6_breaks 161 = .ok (.goto 4, 3) := by decide +kernel
theorem dX6_breaks_164 : decode cX6_breaks 164 = .ok (.iconst 0, 1) := by decide +kernel
theorem dX6_breaks_165 : decode cX6_breaks 165 = .ok (.ireturn, 1) := by decide +kernel
theorem dX6_breaks_166 : decode cX6_breaks 166 = .ok (.iload 4, 2) := by decide +kernel
theorem dX6_breaks_168 : decode cX6_breaks 168 = .ok (.ifCond .eq 24, 3) := by decide +kernel
theorem dX6_breaks_171 : decode cX6_breaks 171 = .ok (.aload_n 0, 1) := by decide +kernel
theorem dX6_breaks_172 : decode cX6_breaks 172 = .ok (.iload_n 3, 1) := by decide +kernel
theorem dX6_breaks_173 : decode cX6_breaks 173 = .ok (.invokevirtual 92, 3) := by decide +kernel
theorem dX6_breaks_176 : decode cX6_breaks 176 = .ok (.aload_n 0, 1) := by decide +kernel
theorem dX6_breaks_177 : decode cX6_breaks 177 = .ok (.getfield 40, 3) := by decide +kernel
theorem dX6_breaks_180 : decode cX6_breaks 180 = .ok (.getfield 79, 3) := by decide +kernel
theorem dX6_breaks_183 : decode cX6_breaks 183 = .ok (.iconst 2, 1) := by decide +kernel
theorem dX6_breaks_184 : decode cX6_breaks 184 = .ok (.iaload, 1) := by decide +kernel
theorem dX6_breaks_185 : decode cX6_breaks 185 = .ok (.if_icmp .le 7, 3) := by decide +kernel
theorem dX6_breaks_188 : decode cX6_breaks 188 = .ok (.iconst 1, 1) := by decide +kernel
theorem dX6_breaks_189 : decode cX6_breaks 189 = .ok (.goto 4, 3) := by decide +kernel
theorem dX6_breaks_192 : decode cX6_breaks 192 = .ok (.iconst 0, 1) := by decide +kernel
theorem dX6_breaks_193 : decode cX6_breaks 193 = .ok (.ireturn, 1) := by decide +kernel
theorem dX6_breaks_194 : decode cX6_breaks 194 = .ok (.iload 4, 2) := by decide +kernel
theorem dX6_breaks_196 : decode cX6_breaks 196 = .ok (.ifCond .eq 25, 3) := by decide +kernel
theorem dX6_breaks_199 : decode cX6_breaks 199 = .ok (.aload_n 0, 1) := by decide +kernel
theorem dX6_breaks_200 : decode cX6_breaks 200 = .ok (.getfield 31, 3) := by decide +kernel
theorem dX6_breaks_203 : decode cX6_breaks 203 = .ok (.iload_n 3, 1) := by decide +kernel
theorem dX6_breaks_204 : decode cX6_breaks 204 = .ok (.iaload, 1) := by decide +kernel
theorem dX6_breaks_205 : decode cX6_breaks 205 = .ok (.aload_n 0, 1) := by decide +kernel
theorem dX6_breaks_206 : decode cX6_breaks 206 = .ok (.getfield 40, 3) := by decide +kernel
theorem dX6_breaks_209 : decode cX6_breaks 209 = .ok (.getfield 79, 3) := by decide +kernel
theorem dX6_breaks_212 : decode cX6_breaks 212 = .ok (.iconst 3, 1) := by decide +kernel
theorem dX6_breaks_213 : decode cX6_breaks 213 = .ok (.iaload, 1) := by decide +kernel
theorem dX6_breaks_214 : decode cX6_breaks 214 = .ok (.if_icmp .le 7, 3) := by decide +kernel
theorem dX6_breaks_217 : decode cX6_breaks 217 = .ok (.iconst 1, 1) := by decide +kernel
theorem dX6_breaks_218 : decode cX6_breaks 218 = .ok (.goto 4, 3) := by decide +kernel
theorem dX6_breaks_221 : decode cX6_breaks 221 = .ok (.iconst 0, 1) := by decide +kernel
theorem dX6_breaks_222 : decode cX6_breaks 222 = .ok (.ireturn, 1) := by decide +kernel
theorem dX6_breaks_223 : decode cX6_breaks 223 = .ok (.iload 4, 2) := by decide +kernel
theorem dX6_breaks_225 : decode cX6_breaks 225 = .ok (.ifCond .eq 24, 3) := by decide +kernel
theorem dX6_breaks_228 : decode cX6_breaks 228 = .ok (.aload_n 0, 1) := by decide +kernel
theorem dX6_breaks_229 : decode cX6_breaks 229 = .ok (.iload_n 3, 1) := by decide +kernel
theorem dX6_breaks_230 : decode cX6_breaks 230 = .ok (.invokevirtual 95, 3) := by decide +kernel
theorem dX6_breaks_233 : decode cX6_breaks 233 = .ok (.aload_n 0, 1) := by decide +kernel
theorem dX6_breaks_234 : decode cX6_breaks 234 = .ok (.getfield 40, 3) := by decide +kernel
theorem dX6_breaks_237 : decode cX6_breaks 237 = .ok (.getfield 79, 3) := by decide +kernel
theorem dX6_breaks_240 : decode cX6_breaks 240 = .ok (.iconst 4, 1) := by decide +kernel
theorem dX6_breaks_241 : decode cX6_breaks 241 = .ok (.iaload, 1) := by decide +kernel
theorem dX6_breaks_242 : decode cX6_breaks 242 = .ok (.if_icmp .le 7, 3) := by decide +kernel
theorem dX6_breaks_245 : decode cX6_breaks 245 = .ok (.iconst 1, 1) := by decide +kernel
theorem dX6_breaks_246 : decode cX6_breaks 246 = .ok (.goto 4, 3) := by decide +kernel
theorem dX6_breaks_249 : decode cX6_breaks 249 = .ok (.iconst 0, 1) := by decide +kernel
theorem dX6_breaks_250 : decode cX6_breaks 250 = .ok (.ireturn, 1) := by decide +kernel
theorem dX6_overfillsWindow_0 : decode cX6_overfillsWindow 0 = .ok (.aload_n 0, 1) := by decide +kernel
theorem dX6_overfillsWindow_1 : decode cX6_overfillsWindow 1 = .ok (.getfield 15, 3) := by decide +kernel
theorem dX6_overfillsWindow_4 : decode cX6_overfillsWindow 4 = .ok (.iload_n 1, 1) := by decide +kernel
theorem dX6_overfillsWindow_5 : decode cX6_overfillsWindow 5 = .ok (.baload, 1) := by decide +kernel
theorem dX6_overfillsWindow_6 : decode cX6_overfillsWindow 6 = .ok (.ifCond .eq 40, 3) := by decide +kernel
theorem dX6_overfillsWindow_9 : decode cX6_overfillsWindow 9 = .ok (.aload_n 0, 1) := by decide +kernel
theorem dX6_overfillsWindow_10 : decode cX6_overfillsWindow 10 = .ok (.aload_n 0, 1) := by decide +kernel
theorem dX6_overfillsWindow_11 : decode cX6_overfillsWindow 11 = .ok (.getfield 40, 3) := by decide +kernel
theorem dX6_overfillsWindow_14 : decode cX6_overfillsWindow 14 = .ok (.getfield 73, 3) := by decide +kernel
theorem dX6_overfillsWindow_17 : decode cX6_overfillsWindow 17 = .ok (.aload_n 0, 1) := by decide +kernel
theorem dX6_overfillsWindow_18 : decode cX6_overfillsWindow 18 = .ok (.getfield 9, 3) := by decide +kernel
theorem dX6_overfillsWindow_21 : decode cX6_overfillsWindow 21 = .ok (.iload_n 1, 1) := by decide +kernel
theorem dX6_overfillsWindow_22 : decode cX6_overfillsWindow 22 = .ok (.iaload, 1) := by decide +kernel
theorem dX6_overfillsWindow_23 : decode cX6_overfillsWindow 23 = .ok (.iaload, 1) := by decide +kernel
theorem dX6_overfillsWindow_24 : decode cX6_overfillsWindow 24 = .ok (.sipush 1440, 3) := by decide +kernel
theorem dX6_overfillsWindow_27 : decode cX6_overfillsWindow 27 = .ok (.invokevirtual 98, 3) := by decide +kernel
theorem dX6_overfillsWindow_30 : decode cX6_overfillsWindow 30 = .ok (.aload_n 0, 1) := by decide +kernel
theorem dX6_overfillsWindow_31 : decode cX6_overfillsWindow 31 = .ok (.getfield 40, 3) := by decide +kernel
theorem dX6_overfillsWindow_34 : decode cX6_overfillsWindow 34 = .ok (.getfield 79, 3) := by decide +kernel
theorem dX6_overfillsWindow_37 : decode cX6_overfillsWindow 37 = .ok (.iconst 5, 1) := by decide +kernel
theorem dX6_overfillsWindow_38 : decode cX6_overfillsWindow 38 = .ok (.iaload, 1) := by decide +kernel
theorem dX6_overfillsWindow_39 : decode cX6_overfillsWindow 39 = .ok (.if_icmp .le 7, 3) := by decide +kernel
theorem dX6_overfillsWindow_42 : decode cX6_overfillsWindow 42 = .ok (.iconst 1, 1) := by decide +kernel
theorem dX6_overfillsWindow_43 : decode cX6_overfillsWindow 43 = .ok (.goto 4, 3) := by decide +kernel
theorem dX6_overfillsWindow_46 : decode cX6_overfillsWindow 46 = .ok (.iconst 0, 1) := by decide +kernel
theorem dX6_overfillsWindow_47 : decode cX6_overfillsWindow 47 = .ok (.ireturn, 1) := by decide +kernel
theorem dX6_findViolations_0 : decode cX6_findViolations 0 = .ok (.iload_n 1, 1) := by decide +kernel
theorem dX6_findViolations_1 : decode cX6_findViolations 1 = .ok (.aload_n 0, 1) := by decide +kernel
theorem dX6_findViolations_2 : decode cX6_findViolations 2 = .ok (.getfield 34, 3) := by decide +kernel
theorem dX6_findViolations_5 : decode cX6_findViolations 5 = .ok (.arraylength, 1) := by decide +kernel
theorem dX6_findViolations_6 : decode cX6_findViolations 6 = .ok (.if_icmp .ge 7, 3) := by decide +kernel
theorem dX6_findViolations_9 : decode cX6_findViolations 9 = .ok (.iload_n 1, 1) := by decide +kernel
theorem dX6_findViolations_10 : decode cX6_findViolations 10 = .ok (.goto 8, 3) := by decide +kernel
theorem dX6_findViolations_13 : decode cX6_findViolations 13 = .ok (.aload_n 0, 1) := by decide +kernel
theorem dX6_findViolations_14 : decode cX6_findViolations 14 = .ok (.getfield 34, 3) := by decide +kernel
theorem dX6_findViolations_17 : decode cX6_findViolations 17 = .ok (.arraylength, 1) := by decide +kernel
theorem dX6_findViolations_18 : decode cX6_findViolations 18 = .ok (.istore_n 2, 1) := by decide +kernel
theorem dX6_findViolations_19 : decode cX6_findViolations 19 = .ok (.aload_n 0, 1) := by decide +kernel
theorem dX6_findViolations_20 : decode cX6_findViolations 20 = .ok (.iconst 0, 1) := by decide +kernel
theorem dX6_findViolations_21 : decode cX6_findViolations 21 = .ok (.putfield 102, 3) := by decide +kernel
theorem dX6_findViolations_24 : decode cX6_findViolations 24 = .ok (.iconst 1, 1) := by decide +kernel
theorem dX6_findViolations_25 : decode cX6_findViolations 25 = .ok (.istore_n 3, 1) := by decide +kernel
theorem dX6_findViolations_26 : decode cX6_findViolations 26 = .ok (.iload_n 3, 1) := by decide +kernel
theorem dX6_findViolations_27 : decode cX6_findViolations 27 = .ok (.bipush 7, 2) := by decide +kernel
theorem dX6_findViolations_29 : decode cX6_findViolations 29 = .ok (.if_icmp .gt 94, 3) := by decide +kernel
theorem dX6_findViolations_32 : decode cX6_findViolations 32 = .ok (.iconst 0, 1) := by decide +kernel
theorem dX6_findViolations_33 : decode cX6_findViolations 33 = .ok (.istore 4, 2) := by decide +kernel
theorem dX6_findViolations_35 : decode cX6_findViolations 35 = .ok (.iload 4, 2) := by decide +kernel
theorem dX6_findViolations_37 : decode cX6_findViolations 37 = .ok (.aload_n 0, 1) := by decide +kernel
theorem dX6_findViolations_38 : decode cX6_findViolations 38 = .ok (.getfield 53, 3) := by decide +kernel
theorem dX6_findViolations_41 : decode cX6_findViolations 41 = .ok (.if_icmp .ge 76, 3) := by decide +kernel
theorem dX6_findViolations_44 : decode cX6_findViolations 44 = .ok (.aload_n 0, 1) := by decide +kernel
theorem dX6_findViolations_45 : decode cX6_findViolations 45 = .ok (.getfield 102, 3) := by decide +kernel
theorem dX6_findViolations_48 : decode cX6_findViolations 48 = .ok (.iload_n 2, 1) := by decide +kernel
theorem dX6_findViolations_49 : decode cX6_findViolations 49 = .ok (.if_icmp .ge 68, 3) := by decide +kernel
theorem dX6_findViolations_52 : decode cX6_findViolations 52 = .ok (.iload_n 3, 1) := by decide +kernel
theorem dX6_findViolations_53 : decode cX6_findViolations 53 = .ok (.bipush 7, 2) := by decide +kernel
theorem dX6_findViolations_55 : decode cX6_findViolations 55 = .ok (.if_icmp .ne 15, 3) := by decide +kernel
theorem dX6_findViolations_58 : decode cX6_findViolations 58 = .ok (.aload_n 0, 1) := by decide +kernel
theorem dX6_findViolations_59 : decode cX6_findViolations 59 = .ok (.iload 4, 2) := by decide +kernel
theorem dX6_findViolations_61 : decode cX6_findViolations 61 = .ok (.invokevirtual 105, 3) := by decide +kernel
theorem dX6_findViolations_64 : decode cX6_findViolations 64 = .ok (.ifCond .eq 47, 3) := by decide +kernel
theorem dX6_findViolations_67 : decode cX6_findViolations 67 = .ok (.goto 13, 3) := by decide +kernel
theorem dX6_findViolations_70 : decode cX6_findViolations 70 = .ok (.aload_n 0, 1) := by decide +kernel
theorem dX6_findViolations_71 : decode cX6_findViolations 71 = .ok (.iload_n 3, 1) := by decide +kernel
theorem dX6_findViolations_72 : decode cX6_findViolations 72 = .ok (.iload 4, 2) := by decide +kernel
theorem dX6_findViolations_74 : decode cX6_findViolations 74 = .ok (.invokevirtual 109, 3) := by decide +kernel
theorem dX6_findViolations_77 : decode cX6_findViolations 77 = .ok (.ifCond .eq 34, 3) := by decide +kernel
theorem dX6_findViolations_80 : decode cX6_findViolations 80 = .ok (.aload_n 0, 1) := by decide +kernel
theorem dX6_findViolations_81 : decode cX6_findViolations 81 = .ok (.getfield 34, 3) := by decide +kernel
theorem dX6_findViolations_84 : decode cX6_findViolations 84 = .ok (.aload_n 0, 1) := by decide +kernel
theorem dX6_findViolations_85 : decode cX6_findViolations 85 = .ok (.getfield 102, 3) := by decide +kernel
theorem dX6_findViolations_88 : decode cX6_findViolations 88 = .ok (.iload_n 3, 1) := by decide +kernel
theorem dX6_findViolations_89 : decode cX6_findViolations 89 = .ok (.iastore, 1) := by decide +kernel
theorem dX6_findViolations_90 : decode cX6_findViolations 90 = .ok (.aload_n 0, 1) := by decide +kernel
theorem dX6_findViolations_91 : decode cX6_findViolations 91 = .ok (.getfield 37, 3) := by decide +kernel
theorem dX6_findViolations_94 : decode cX6_findViolations 94 = .ok (.aload_n 0, 1) := by decide +kernel
theorem dX6_findViolations_95 : decode cX6_findViolations 95 = .ok (.getfield 102, 3) := by decide +kernel
theorem dX6_findViolations_98 : decode cX6_findViolations 98 = .ok (.iload 4, 2) := by decide +kernel
theorem dX6_findViolations_100 : decode cX6_findViolations 100 = .ok (.iastore, 1) := by decide +kernel
theorem dX6_findViolations_101 : decode cX6_findViolations 101 = .ok (.aload_n 0, 1) := by decide +kernel
theorem dX6_findViolations_102 : decode cX6_findViolations 102 = .ok (.dup, 1) := by decide +kernel
theorem dX6_findViolations_103 : decode cX6_findViolations 103 = .ok (.getfield 102, 3) := by decide +kernel
theorem dX6_findViolations_106 : decode cX6_findViolations 106 = .ok (.iconst 1, 1) := by decide +kernel
theorem dX6_findViolations_107 : decode cX6_findViolations 107 = .ok (.iadd, 1) := by decide +kernel
theorem dX6_findViolations_108 : decode cX6_findViolations 108 = .ok (.putfield 102, 3) := by decide +kernel
theorem dX6_findViolations_111 : decode cX6_findViolations 111 = .ok (.iinc 4 1, 3) := by decide +kernel
theorem dX6_findViolations_114 : decode cX6_findViolations 114 = .ok (.goto (-79), 3) := by decide +kernel
theorem dX6_findViolations_117 : decode cX6_findViolations 117 = .ok (.iinc 3 1, 3) := by decide +kernel
theorem dX6_findViolations_120 : decode cX6_findViolations 120 = .ok (.goto (-94), 3) := by decide +kernel
theorem dX6_findViolations_123 : decode cX6_findViolations 123 = .ok (.aload_n 0, 1) := by decide +kernel
theorem dX6_findViolations_124 : decode cX6_findViolations 124 = .ok (.getfield 102, 3) := by decide +kernel
theorem dX6_findViolations_127 : decode cX6_findViolations 127 = .ok (.ireturn, 1) := by decide +kernel
theorem dX6_lastBreaks_0 : decode cX6_lastBreaks 0 = .ok (.aload_n 0, 1) := by decide +kernel
theorem dX6_lastBreaks_1 : decode cX6_lastBreaks 1 = .ok (.getfield 53, 3) := by decide +kernel
theorem dX6_lastBreaks_4 : decode cX6_lastBreaks 4 = .ok (.iconst 1, 1) := by decide +kernel
theorem dX6_lastBreaks_5 : decode cX6_lastBreaks 5 = .ok (.isub, 1) := by decide +kernel
theorem dX6_lastBreaks_6 : decode cX6_lastBreaks 6 = .ok (.istore_n 1, 1) := by decide +kernel
theorem dX6_lastBreaks_7 : decode cX6_lastBreaks 7 = .ok (.iload_n 1, 1) := by decide +kernel
theorem dX6_lastBreaks_8 : decode cX6_lastBreaks 8 = .ok (.ifCond .ge 5, 3) := by decide +kernel
theorem dX6_lastBreaks_11 : decode cX6_lastBreaks 11 = .ok (.iconst 0, 1) := by decide +kernel
theorem dX6_lastBreaks_12 : decode cX6_lastBreaks 12 = .ok (.ireturn, 1) := by decide +kernel
theorem dX6_lastBreaks_13 : decode cX6_lastBreaks 13 = .ok (.aload_n 0, 1) := by decide +kernel
theorem dX6_lastBreaks_14 : decode cX6_lastBreaks 14 = .ok (.getfield 25, 3) := by decide +kernel
theorem dX6_lastBreaks_17 : decode cX6_lastBreaks 17 = .ok (.aload_n 0, 1) := by decide +kernel
theorem dX6_lastBreaks_18 : decode cX6_lastBreaks 18 = .ok (.getfield 22, 3) := by decide +kernel
theorem dX6_lastBreaks_21 : decode cX6_lastBreaks 21 = .ok (.iload_n 1, 1) := by decide +kernel
theorem dX6_lastBreaks_22 : decode cX6_lastBreaks 22 = .ok (.iaload, 1) := by decide +kernel
theorem dX6_lastBreaks_23 : decode cX6_lastBreaks 23 = .ok (.iaload, 1) := by decide +kernel
theorem dX6_lastBreaks_24 : decode cX6_lastBreaks 24 = .ok (.istore_n 2, 1) := by decide +kernel
theorem dX6_lastBreaks_25 : decode cX6_lastBreaks 25 = .ok (.aload_n 0, 1) := by decide +kernel
theorem dX6_lastBreaks_26 : decode cX6_lastBreaks 26 = .ok (.iconst 1, 1) := by decide +kernel
theorem dX6_lastBreaks_27 : decode cX6_lastBreaks 27 = .ok (.iload_n 1, 1) := by decide +kernel
theorem dX6_lastBreaks_28 : decode cX6_lastBreaks 28 = .ok (.invokevirtual 109, 3) := by decide +kernel
theorem dX6_lastBreaks_31 : decode cX6_lastBreaks 31 = .ok (.ifCond .ne 49, 3) := by decide +kernel
theorem dX6_lastBreaks_34 : decode cX6_lastBreaks 34 = .ok (.aload_n 0, 1) := by decide +kernel
theorem dX6_lastBreaks_35 : decode cX6_lastBreaks 35 = .ok (.iconst 2, 1) := by decide +kernel
theorem dX6_lastBreaks_36 : decode cX6_lastBreaks 36 = .ok (.iload_n 1, 1) := by decide +kernel
theorem dX6_lastBreaks_37 : decode cX6_lastBreaks 37 = .ok (.invokevirtual 109, 3) := by decide +kernel
theorem dX6_lastBreaks_40 : decode cX6_lastBreaks 40 = .ok (.ifCond .ne 40, 3) := by decide +kernel
theorem dX6_lastBreaks_43 : decode cX6_lastBreaks 43 = .ok (.aload_n 0, 1) := by decide +kernel
theorem dX6_lastBreaks_44 : decode cX6_lastBreaks 44 = .ok (.iconst 3, 1) := by decide +kernel
theorem dX6_lastBreaks_45 : decode cX6_lastBreaks 45 = .ok (.iload_n 1, 1) := by decide +kernel
theorem dX6_lastBreaks_46 : decode cX6_lastBreaks 46 = .ok (.invokevirtual 109, 3) := by decide +kernel
theorem dX6_lastBreaks_49 : decode cX6_lastBreaks 49 = .ok (.ifCond .ne 31, 3) := by decide +kernel
theorem dX6_lastBreaks_52 : decode cX6_lastBreaks 52 = .ok (.aload_n 0, 1) := by decide +kernel
theorem dX6_lastBreaks_53 : decode cX6_lastBreaks 53 = .ok (.iconst 4, 1) := by decide +kernel
theorem dX6_lastBreaks_54 : decode cX6_lastBreaks 54 = .ok (.iload_n 2, 1) := by decide +kernel
theorem dX6_lastBreaks_55 : decode cX6_lastBreaks 55 = .ok (.invokevirtual 109, 3) := by decide +kernel
theorem dX6_lastBreaks_58 : decode cX6_lastBreaks 58 = .ok (.ifCond .ne 22, 3) := by decide +kernel
theorem dX6_lastBreaks_61 : decode cX6_lastBreaks 61 = .ok (.aload_n 0, 1) := by decide +kernel
theorem dX6_lastBreaks_62 : decode cX6_lastBreaks 62 = .ok (.iconst 5, 1) := by decide +kernel
theorem dX6_lastBreaks_63 : decode cX6_lastBreaks 63 = .ok (.iload_n 2, 1) := by decide +kernel
theorem dX6_lastBreaks_64 : decode cX6_lastBreaks 64 = .ok (.invokevirtual 109, 3) := by decide +kernel
theorem dX6_lastBreaks_67 : decode cX6_lastBreaks 67 = .ok (.ifCond .ne 13, 3) := by decide +kernel
theorem dX6_lastBreaks_70 : decode cX6_lastBreaks 70 = .ok (.aload_n 0, 1) := by decide +kernel
theorem dX6_lastBreaks_71 : decode cX6_lastBreaks 71 = .ok (.bipush 6, 2) := by decide +kernel
theorem dX6_lastBreaks_73 : decode cX6_lastBreaks 73 = .ok (.iload_n 2, 1) := by decide +kernel
theorem dX6_lastBreaks_74 : decode cX6_lastBreaks 74 = .ok (.invokevirtual 109, 3) := by decide +kernel
theorem dX6_lastBreaks_77 : decode cX6_lastBreaks 77 = .ok (.ifCond .eq 5, 3) := by decide +kernel
theorem dX6_lastBreaks_80 : decode cX6_lastBreaks 80 = .ok (.iconst 1, 1) := by decide +kernel
theorem dX6_lastBreaks_81 : decode cX6_lastBreaks 81 = .ok (.ireturn, 1) := by decide +kernel
theorem dX6_lastBreaks_82 : decode cX6_lastBreaks 82 = .ok (.iconst 0, 1) := by decide +kernel
theorem dX6_lastBreaks_83 : decode cX6_lastBreaks 83 = .ok (.istore_n 3, 1) := by decide +kernel
theorem dX6_lastBreaks_84 : decode cX6_lastBreaks 84 = .ok (.iload_n 3, 1) := by decide +kernel
theorem dX6_lastBreaks_85 : decode cX6_lastBreaks 85 = .ok (.aload_n 0, 1) := by decide +kernel
theorem dX6_lastBreaks_86 : decode cX6_lastBreaks 86 = .ok (.getfield 53, 3) := by decide +kernel
theorem dX6_lastBreaks_89 : decode cX6_lastBreaks 89 = .ok (.if_icmp .ge 19, 3) := by decide +kernel
theorem dX6_lastBreaks_92 : decode cX6_lastBreaks 92 = .ok (.aload_n 0, 1) := by decide +kernel
theorem dX6_lastBreaks_93 : decode cX6_lastBreaks 93 = .ok (.iload_n 3, 1) := by decide +kernel
theorem dX6_lastBreaks_94 : decode cX6_lastBreaks 94 = .ok (.invokevirtual 105, 3) := by decide +kernel
theorem dX6_lastBreaks_97 : decode cX6_lastBreaks 97 = .ok (.ifCond .eq 5, 3) := by decide +kernel
theorem dX6_lastBreaks_100 : decode cX6_lastBreaks 100 = .ok (.iconst 1, 1) := by decide +kernel
theorem dX6_lastBreaks_101 : decode cX6_lastBreaks 101 = .ok (.ireturn, 1) := by decide +kernel
theorem dX6_lastBreaks_102 : decode cX6_lastBreaks 102 = .ok (.iinc 3 1, 3) := by decide +kernel
theorem dX6_lastBreaks_105 : decode cX6_lastBreaks 105 = .ok (.goto (-21), 3) := by decide +kernel
theorem dX6_lastBreaks_108 : decode cX6_lastBreaks 108 = .ok (.iconst 0, 1) := by decide +kernel
theorem dX6_lastBreaks_109 : decode cX6_lastBreaks 109 = .ok (.ireturn, 1) := by decide +kernel
theorem dX6_isHome_0 : decode cX6_isHome 0 = .ok (.aload_n 0, 1) := by decide +kernel
theorem dX6_isHome_1 : decode cX6_isHome 1 = .ok (.getfield 53, 3) := by decide +kernel
theorem dX6_isHome_4 : decode cX6_isHome 4 = .ok (.ifCond .eq 29, 3) := by decide +kernel
theorem dX6_isHome_7 : decode cX6_isHome 7 = .ok (.aload_n 0, 1) := by decide +kernel
theorem dX6_isHome_8 : decode cX6_isHome 8 = .ok (.getfield 40, 3) := by decide +kernel
theorem dX6_isHome_11 : decode cX6_isHome 11 = .ok (.getfield 89, 3) := by decide +kernel
theorem dX6_isHome_14 : decode cX6_isHome 14 = .ok (.aload_n 0, 1) := by decide +kernel
theorem dX6_isHome_15 : decode cX6_isHome 15 = .ok (.getfield 9, 3) := by decide +kernel
theorem dX6_isHome_18 : decode cX6_isHome 18 = .ok (.aload_n 0, 1) := by decide +kernel
theorem dX6_isHome_19 : decode cX6_isHome 19 = .ok (.getfield 53, 3) := by decide +kernel
theorem dX6_isHome_22 : decode cX6_isHome 22 = .ok (.iconst 1, 1) := by decide +kernel
theorem dX6_isHome_23 : decode cX6_isHome 23 = .ok (.isub, 1) := by decide +kernel
theorem dX6_isHome_24 : decode cX6_isHome 24 = .ok (.iaload, 1) := by decide +kernel
theorem dX6_isHome_25 : decode cX6_isHome 25 = .ok (.iaload, 1) := by decide +kernel
theorem dX6_isHome_26 : decode cX6_isHome 26 = .ok (.aload_n 0, 1) := by decide +kernel
theorem dX6_isHome_27 : decode cX6_isHome 27 = .ok (.getfield 49, 3) := by decide +kernel
theorem dX6_isHome_30 : decode cX6_isHome 30 = .ok (.if_icmp .ne 7, 3) := by decide +kernel
theorem dX6_isHome_33 : decode cX6_isHome 33 = .ok (.iconst 1, 1) := by decide +kernel
theorem dX6_isHome_34 : decode cX6_isHome 34 = .ok (.goto 4, 3) := by decide +kernel
theorem dX6_isHome_37 : decode cX6_isHome 37 = .ok (.iconst 0, 1) := by decide +kernel
theorem dX6_isHome_38 : decode cX6_isHome 38 = .ok (.ireturn, 1) := by decide +kernel
theorem dX6_endsAtBase_0 : decode cX6_endsAtBase 0 = .ok (.aload_n 0, 1) := by decide +kernel
theorem dX6_endsAtBase_1 : decode cX6_endsAtBase 1 = .ok (.getfield 40, 3) := by decide +kernel
theorem dX6_endsAtBase_4 : decode cX6_endsAtBase 4 = .ok (.getfield 89, 3) := by decide +kernel
theorem dX6_endsAtBase_7 : decode cX6_endsAtBase 7 = .ok (.aload_n 0, 1) := by decide +kernel
theorem dX6_endsAtBase_8 : decode cX6_endsAtBase 8 = .ok (.getfield 9, 3) := by decide +kernel
theorem dX6_endsAtBase_11 : decode cX6_endsAtBase 11 = .ok (.aload_n 0, 1) := by decide +kernel
theorem dX6_endsAtBase_12 : decode cX6_endsAtBase 12 = .ok (.getfield 28, 3) := by decide +kernel
theorem dX6_endsAtBase_15 : decode cX6_endsAtBase 15 = .ok (.iload_n 1, 1) := by decide +kernel
theorem dX6_endsAtBase_16 : decode cX6_endsAtBase 16 = .ok (.iaload, 1) := by decide +kernel
theorem dX6_endsAtBase_17 : decode cX6_endsAtBase 17 = .ok (.iaload, 1) := by decide +kernel
theorem dX6_endsAtBase_18 : decode cX6_endsAtBase 18 = .ok (.iaload, 1) := by decide +kernel
theorem dX6_endsAtBase_19 : decode cX6_endsAtBase 19 = .ok (.aload_n 0, 1) := by decide +kernel
theorem dX6_endsAtBase_20 : decode cX6_endsAtBase 20 = .ok (.getfield 49, 3) := by decide +kernel
theorem dX6_endsAtBase_23 : decode cX6_endsAtBase 23 = .ok (.if_icmp .ne 7, 3) := by decide +kernel
theorem dX6_endsAtBase_26 : decode cX6_endsAtBase 26 = .ok (.iconst 1, 1) := by decide +kernel
theorem dX6_endsAtBase_27 : decode cX6_endsAtBase 27 = .ok (.goto 4, 3) := by decide +kernel
theorem dX6_endsAtBase_30 : decode cX6_endsAtBase 30 = .ok (.iconst 0, 1) := by decide +kernel
theorem dX6_endsAtBase_31 : decode cX6_endsAtBase 31 = .ok (.ireturn, 1) := by decide +kernel
theorem dX6_pairingCount_0 : decode cX6_pairingCount 0 = .ok (.iconst 0, 1) := by decide +kernel
theorem dX6_pairingCount_1 : decode cX6_pairingCount 1 = .ok (.istore_n 1, 1) := by decide +kernel
theorem dX6_pairingCount_2 : decode cX6_pairingCount 2 = .ok (.iconst 0, 1) := by decide +kernel
theorem dX6_pairingCount_3 : decode cX6_pairingCount 3 = .ok (.istore_n 2, 1) := by decide +kernel
theorem dX6_pairingCount_4 : decode cX6_pairingCount 4 = .ok (.iload_n 2, 1) := by decide +kernel
theorem dX6_pairingCount_5 : decode cX6_pairingCount 5 = .ok (.aload_n 0, 1) := by decide +kernel
theorem dX6_pairingCount_6 : decode cX6_pairingCount 6 = .ok (.getfield 56, 3) := by decide +kernel
theorem dX6_pairingCount_9 : decode cX6_pairingCount 9 = .ok (.if_icmp .ge 20, 3) := by decide +kernel
theorem dX6_pairingCount_12 : decode cX6_pairingCount 12 = .ok (.aload_n 0, 1) := by decide +kernel
theorem dX6_pairingCount_13 : decode cX6_pairingCount 13 = .ok (.iload_n 2, 1) := by decide +kernel
theorem dX6_pairingCount_14 : decode cX6_pairingCount 14 = .ok (.invokevirtual 113, 3) := by decide +kernel
theorem dX6_pairingCount_17 : decode cX6_pairingCount 17 = .ok (.ifCond .eq 6, 3) := by decide +kernel
theorem dX6_pairingCount_20 : decode cX6_pairingCount 20 = .ok (.iinc 1 1, 3) := by decide +kernel
theorem dX6_pairingCount_23 : decode cX6_pairingCount 23 = .ok (.iinc 2 1, 3) := by decide +kernel
theorem dX6_pairingCount_26 : decode cX6_pairingCount 26 = .ok (.goto (-22), 3) := by decide +kernel
theorem dX6_pairingCount_29 : decode cX6_pairingCount 29 = .ok (.iload_n 1, 1) := by decide +kernel
theorem dX6_pairingCount_30 : decode cX6_pairingCount 30 = .ok (.ireturn, 1) := by decide +kernel
theorem dX6_nightCount_0 : decode cX6_nightCount 0 = .ok (.iconst 0, 1) := by decide +kernel
theorem dX6_nightCount_1 : decode cX6_nightCount 1 = .ok (.istore_n 1, 1) := by decide +kernel
theorem dX6_nightCount_2 : decode cX6_nightCount 2 = .ok (.iconst 0, 1) := by decide +kernel
theorem dX6_nightCount_3 : decode cX6_nightCount 3 = .ok (.istore_n 2, 1) := by decide +kernel
theorem dX6_nightCount_4 : decode cX6_nightCount 4 = .ok (.iload_n 2, 1) := by decide +kernel
theorem dX6_nightCount_5 : decode cX6_nightCount 5 = .ok (.aload_n 0, 1) := by decide +kernel
theorem dX6_nightCount_6 : decode cX6_nightCount 6 = .ok (.getfield 56, 3) := by decide +kernel
theorem dX6_nightCount_9 : decode cX6_nightCount 9 = .ok (.iconst 1, 1) := by decide +kernel
theorem dX6_nightCount_10 : decode cX6_nightCount 10 = .ok (.isub, 1) := by decide +kernel
theorem dX6_nightCount_11 : decode cX6_nightCount 11 = .ok (.if_icmp .ge 20, 3) := by decide +kernel
theorem dX6_nightCount_14 : decode cX6_nightCount 14 = .ok (.aload_n 0, 1) := by decide +kernel
theorem dX6_nightCount_15 : decode cX6_nightCount 15 = .ok (.iload_n 2, 1) := by decide +kernel
theorem dX6_nightCount_16 : decode cX6_nightCount 16 = .ok (.invokevirtual 113, 3) := by decide +kernel
theorem dX6_nightCount_19 : decode cX6_nightCount 19 = .ok (.ifCond .ne 6, 3) := by decide +kernel
theorem dX6_nightCount_22 : decode cX6_nightCount 22 = .ok (.iinc 1 1, 3) := by decide +kernel
theorem dX6_nightCount_25 : decode cX6_nightCount 25 = .ok (.iinc 2 1, 3) := by decide +kernel
theorem dX6_nightCount_28 : decode cX6_nightCount 28 = .ok (.goto (-24), 3) := by decide +kernel
theorem dX6_nightCount_31 : decode cX6_nightCount 31 = .ok (.iload_n 1, 1) := by decide +kernel
theorem dX6_nightCount_32 : decode cX6_nightCount 32 = .ok (.ireturn, 1) := by decide +kernel
theorem dX6_rideMinutes_0 : decode cX6_rideMinutes 0 = .ok (.iconst 0, 1) := by decide +kernel
theorem dX6_rideMinutes_1 : decode cX6_rideMinutes 1 = .ok (.istore_n 1, 1) := by decide +kernel
theorem dX6_rideMinutes_2 : decode cX6_rideMinutes 2 = .ok (.iconst 0, 1) := by decide +kernel
theorem dX6_rideMinutes_3 : decode cX6_rideMinutes 3 = .ok (.istore_n 2, 1) := by decide +kernel
theorem dX6_rideMinutes_4 : decode cX6_rideMinutes 4 = .ok (.iload_n 2, 1) := by decide +kernel
theorem dX6_rideMinutes_5 : decode cX6_rideMinutes 5 = .ok (.aload_n 0, 1) := by decide +kernel
theorem dX6_rideMinutes_6 : decode cX6_rideMinutes 6 = .ok (.getfield 53, 3) := by decide +kernel
theorem dX6_rideMinutes_9 : decode cX6_rideMinutes 9 = .ok (.if_icmp .ge 34, 3) := by decide +kernel
theorem dX6_rideMinutes_12 : decode cX6_rideMinutes 12 = .ok (.aload_n 0, 1) := by decide +kernel
theorem dX6_rideMinutes_13 : decode cX6_rideMinutes 13 = .ok (.getfield 15, 3) := by decide +kernel
theorem dX6_rideMinutes_16 : decode cX6_rideMinutes 16 = .ok (.iload_n 2, 1) := by decide +kernel
theorem dX6_rideMinutes_17 : decode cX6_rideMinutes 17 = .ok (.baload, 1) := by decide +kernel
theorem dX6_rideMinutes_18 : decode cX6_rideMinutes 18 = .ok (.ifCond .ne 19, 3) := by decide +kernel
theorem dX6_rideMinutes_21 : decode cX6_rideMinutes 21 = .ok (.iload_n 1, 1) := by decide +kernel
theorem dX6_rideMinutes_22 : decode cX6_rideMinutes 22 = .ok (.aload_n 0, 1) := by decide +kernel
theorem dX6_rideMinutes_23 : decode cX6_rideMinutes 23 = .ok (.getfield 40, 3) := by decide +kernel
theorem dX6_rideMinutes_26 : decode cX6_rideMinutes 26 = .ok (.aload_n 0, 1) := by decide +kernel
theorem dX6_rideMinutes_27 : decode cX6_rideMinutes 27 = .ok (.getfield 9, 3) := by decide +kernel
theorem dX6_rideMinutes_30 : decode cX6_rideMinutes 30 = .ok (.iload_n 2, 1) := by decide +kernel
theorem dX6_rideMinutes_31 : decode cX6_rideMinutes 31 = .ok (.iaload, 1) := by decide +kernel
theorem dX6_rideMinutes_32 : decode cX6_rideMinutes 32 = .ok (.invokevirtual 82, 3) := by decide +kernel
theorem dX6_rideMinutes_35 : decode cX6_rideMinutes 35 = .ok (.iadd, 1) := by decide +kernel
theorem dX6_rideMinutes_36 : decode cX6_rideMinutes 36 = .ok (.istore_n 1, 1) := by decide +kernel
theorem dX6_rideMinutes_37 : decode cX6_rideMinutes 37 = .ok (.iinc 2 1, 3) := by decide +kernel
theorem dX6_rideMinutes_40 : decode cX6_rideMinutes 40 = .ok (.goto (-36), 3) := by decide +kernel
theorem dX6_rideMinutes_43 : decode cX6_rideMinutes 43 = .ok (.iload_n 1, 1) := by decide +kernel
theorem dX6_rideMinutes_44 : decode cX6_rideMinutes 44 = .ok (.ireturn, 1) := by decide +kernel
theorem dX7_init_0 : decode cX7_init 0 = .ok (.aload_n 0, 1) := by decide +kernel
theorem dX7_init_1 : decode cX7_init 1 = .ok (.invokespecial 3, 3) := by decide +kernel
theorem dX7_init_4 : decode cX7_init 4 = .ok (.aload_n 0, 1) := by decide +kernel
theorem dX7_init_5 : decode cX7_init 5 = .ok (.bipush 6, 2) := by decide +kernel
theorem dX7_init_7 : decode cX7_init 7 = .ok (.newarray .int, 2) := by decide +kernel
theorem dX7_init_9 : decode cX7_init 9 = .ok (.putfield 9, 3) := by decide +kernel
theorem dX7_init_12 : decode cX7_init 12 = .ok (.aload_n 0, 1) := by decide +kernel
theorem dX7_init_13 : decode cX7_init 13 = .ok (.bipush 6, 2) := by decide +kernel
theorem dX7_init_15 : decode cX7_init 15 = .ok (.newarray .int, 2) := by decide +kernel
theorem dX7_init_17 : decode cX7_init 17 = .ok (.putfield 15, 3) := by decide +kernel
theorem dX7_init_20 : decode cX7_init 20 = .ok (.aload_n 0, 1) := by decide +kernel
theorem dX7_init_21 : decode cX7_init 21 = .ok (.aload_n 1, 1) := by decide +kernel
theorem dX7_init_22 : decode cX7_init 22 = .ok (.putfield 18, 3) := by decide +kernel
theorem dX7_init_25 : decode cX7_init 25 = .ok (.aload_n 0, 1) := by decide +kernel
theorem dX7_init_26 : decode cX7_init 26 = .ok (.aload_n 2, 1) := by decide +kernel
theorem dX7_init_27 : decode cX7_init 27 = .ok (.putfield 22, 3) := by decide +kernel
theorem dX7_init_30 : decode cX7_init 30 = .ok (.return_, 1) := by decide +kernel
theorem dX7_run_0 : decode cX7_run 0 = .ok (.aload_n 0, 1) := by decide +kernel
theorem dX7_run_1 : decode cX7_run 1 = .ok (.iconst 0, 1) := by decide +kernel
theorem dX7_run_2 : decode cX7_run 2 = .ok (.putfield 26, 3) := by decide +kernel
theorem dX7_run_5 : decode cX7_run 5 = .ok (.aload_n 0, 1) := by decide +kernel
theorem dX7_run_6 : decode cX7_run 6 = .ok (.iconst 0, 1) := by decide +kernel
theorem dX7_run_7 : decode cX7_run 7 = .ok (.putfield 30, 3) := by decide +kernel
theorem dX7_run_10 : decode cX7_run 10 = .ok (.aload_n 0, 1) := by decide +kernel
theorem dX7_run_11 : decode cX7_run 11 = .ok (.iconst 0, 1) := by decide +kernel
theorem dX7_run_12 : decode cX7_run 12 = .ok (.putfield 33, 3) := by decide +kernel
theorem dX7_run_15 : decode cX7_run 15 = .ok (.aload_n 0, 1) := by decide +kernel
theorem dX7_run_16 : decode cX7_run 16 = .ok (.getfield 22, 3) := by decide +kernel
theorem dX7_run_19 : decode cX7_run 19 = .ok (.iload_n 1, 1) := by decide +kernel
theorem dX7_run_20 : decode cX7_run 20 = .ok (.invokevirtual 36, 3) := by decide +kernel
theorem dX7_run_23 : decode cX7_run 23 = .ok (.aload_n 0, 1) := by decide +kernel
theorem dX7_run_24 : decode cX7_run 24 = .ok (.getfield 22, 3) := by decide +kernel
theorem dX7_run_27 : decode cX7_run 27 = .ok (.iconst 1, 1) := by decide +kernel
theorem dX7_run_28 : decode cX7_run 28 = .ok (.invokevirtual 42, 3) := by decide +kernel
theorem dX7_run_31 : decode cX7_run 31 = .ok (.ifCond .ne 8, 3) := by decide +kernel
theorem dX7_run_34 : decode cX7_run 34 = .ok (.aload_n 0, 1) := by decide +kernel
theorem dX7_run_35 : decode cX7_run 35 = .ok (.iconst 0, 1) := by decide +kernel
theorem dX7_run_36 : decode cX7_run 36 = .ok (.invokestatic 46, 3) := by decide +kernel
theorem dX7_run_39 : decode cX7_run 39 = .ok (.return_, 1) := by decide +kernel
theorem dX7_extend_0 : decode cX7_extend 0 = .ok (.iload_n 1, 1) := by decide +kernel
theorem dX7_extend_1 : decode cX7_extend 1 = .ok (.bipush 6, 2) := by decide +kernel
theorem dX7_extend_3 : decode cX7_extend 3 = .ok (.if_icmp .lt 4, 3) := by decide +kernel
theorem dX7_extend_6 : decode cX7_extend 6 = .ok (.return_, 1) := by decide +kernel
theorem dX7_extend_7 : decode cX7_extend 7 = .ok (.iconst 0, 1) := by decide +kernel
theorem dX7_extend_8 : decode cX7_extend 8 = .ok (.istore_n 2, 1) := by decide +kernel
theorem dX7_extend_9 : decode cX7_extend 9 = .ok (.iload_n 2, 1) := by decide +kernel
theorem dX7_extend_10 : decode cX7_extend 10 = .ok (.aload_n 0, 1) := by decide +kernel
theorem dX7_extend_11 : decode cX7_extend 11 = .ok (.getfield 18, 3) := by decide +kernel
theorem dX7_extend_14 : decode cX7_extend 14 = .ok (.getfield 50, 3) := by decide +kernel
theorem dX7_extend_17 : decode cX7_extend 17 = .ok (.if_icmp .ge 109, 3) := by decide +kernel
theorem dX7_extend_20 : decode cX7_extend 20 = .ok (.aload_n 0, 1) := by decide +kernel
theorem dX7_extend_21 : decode cX7_extend 21 = .ok (.iload_n 2, 1) := by decide +kernel
theorem dX7_extend_22 : decode cX7_extend 22 = .ok (.invokevirtual 55, 3) := by decide +kernel
theorem dX7_extend_25 : decode cX7_extend 25 = .ok (.ifCond .eq 95, 3) := by decide +kernel
theorem dX7_extend_28 : decode cX7_extend 28 = .ok (.aload_n 0, 1) := by decide +kernel
theorem dX7_extend_29 : decode cX7_extend 29 = .ok (.getfield 18, 3) := by decide +kernel
theorem dX7_extend_32 : decode cX7_extend 32 = .ok (.iload_n 2, 1) := by decide +kernel
theorem dX7_extend_33 : decode cX7_extend 33 = .ok (.invokevirtual 59, 3) := by decide +kernel
theorem dX7_extend_36 : decode cX7_extend 36 = .ok (.ifCond .eq 84, 3) := by decide +kernel
theorem dX7_extend_39 : decode cX7_extend 39 = .ok (.aload_n 0, 1) := by decide +kernel
theorem dX7_extend_40 : decode cX7_extend 40 = .ok (.getfield 22, 3) := by decide +kernel
theorem dX7_extend_43 : decode cX7_extend 43 = .ok (.iload_n 2, 1) := by decide +kernel
theorem dX7_extend_44 : decode cX7_extend 44 = .ok (.iconst 1, 1) := by decide +kernel
theorem dX7_extend_45 : decode cX7_extend 45 = .ok (.invokevirtual 62, 3) := by decide +kernel
theorem dX7_extend_48 : decode cX7_extend 48 = .ok (.aload_n 0, 1) := by decide +kernel
theorem dX7_extend_49 : decode cX7_extend 49 = .ok (.getfield 22, 3) := by decide +kernel
theorem dX7_extend_52 : decode cX7_extend 52 = .ok (.invokevirtual 66, 3) := by decide +kernel
theorem dX7_extend_55 : decode cX7_extend 55 = .ok (.ifCond .ne 58, 3) := by decide +kernel
theorem dX7_extend_58 : decode cX7_extend 58 = .ok (.aload_n 0, 1) := by decide +kernel
theorem dX7_extend_59 : decode cX7_extend 59 = .ok (.getfield 9, 3) := by decide +kernel
theorem dX7_extend_62 : decode cX7_extend 62 = .ok (.iload_n 1, 1) := by decide +kernel
theorem dX7_extend_63 : decode cX7_extend 63 = .ok (.iload_n 2, 1) := by decide +kernel
theorem dX7_extend_64 : decode cX7_extend 64 = .ok (.iastore, 1) := by decide +kernel
theorem dX7_extend_65 : decode cX7_extend 65 = .ok (.aload_n 0, 1) := by decide +kernel
theorem dX7_extend_66 : decode cX7_extend 66 = .ok (.dup, 1) := by decide +kernel
theorem dX7_extend_67 : decode cX7_extend 67 = .ok (.getfield 26, 3) := by decide +kernel
theorem dX7_extend_70 : decode cX7_extend 70 = .ok (.aload_n 0, 1) := by decide +kernel
theorem dX7_extend_71 : decode cX7_extend 71 = .ok (.getfield 18, 3) := by decide +kernel
theorem dX7_extend_74 : decode cX7_extend 74 = .ok (.iload_n 2, 1) := by decide +kernel
theorem dX7_extend_75 : decode cX7_extend 75 = .ok (.invokevirtual 70, 3) := by decide +kernel
theorem dX7_extend_78 : decode cX7_extend 78 = .ok (.iadd, 1) := by decide +kernel
theorem dX7_extend_79 : decode cX7_extend 79 = .ok (.putfield 26, 3) := by decide +kernel
theorem dX7_extend_82 : decode cX7_extend 82 = .ok (.aload_n 0, 1) := by decide +kernel
theorem dX7_extend_83 : decode cX7_extend 83 = .ok (.iload_n 1, 1) := by decide +kernel
theorem dX7_extend_84 : decode cX7_extend 84 = .ok (.iconst 1, 1) := by decide +kernel
theorem dX7_extend_85 : decode cX7_extend 85 = .ok (.iadd, 1) := by decide +kernel
theorem dX7_extend_86 : decode cX7_extend 86 = .ok (.invokevirtual 73, 3) := by decide +kernel
theorem dX7_extend_89 : decode cX7_extend 89 = .ok (.aload_n 0, 1) := by decide +kernel
theorem dX7_extend_90 : decode cX7_extend 90 = .ok (.iload_n 1, 1) := by decide +kernel
theorem dX7_extend_91 : decode cX7_extend 91 = .ok (.iconst 1, 1) := by decide +kernel
theorem dX7_extend_92 : decode cX7_extend 92 = .ok (.iadd, 1) := by decide +kernel
theorem dX7_extend_93 : decode cX7_extend 93 = .ok (.invokestatic 46, 3) := by decide +kernel
theorem dX7_extend_96 : decode cX7_extend 96 = .ok (.aload_n 0, 1) := by decide +kernel
theorem dX7_extend_97 : decode cX7_extend 97 = .ok (.dup, 1) := by decide +kernel
theorem dX7_extend_98 : decode cX7_extend 98 = .ok (.getfield 26, 3) := by decide +kernel
theorem dX7_extend_101 : decode cX7_extend 101 = .ok (.aload_n 0, 1) := by decide +kernel
theorem dX7_extend_102 : decode cX7_extend 102 = .ok (.getfield 18, 3) := by decide +kernel
theorem dX7_extend_105 : decode cX7_extend 105 = .ok (.iload_n 2, 1) := by decide +kernel
theorem dX7_extend_106 : decode cX7_extend 106 = .ok (.invokevirtual 70, 3) := by decide +kernel
theorem dX7_extend_109 : decode cX7_extend 109 = .ok (.isub, 1) := by decide +kernel
theorem dX7_extend_110 : decode cX7_extend 110 = .ok (.putfield 26, 3) := by decide +kernel
theorem dX7_extend_113 : decode cX7_extend 113 = .ok (.aload_n 0, 1) := by decide +kernel
theorem dX7_extend_114 : decode cX7_extend 114 = .ok (.getfield 22, 3) := by decide +kernel
theorem dX7_extend_117 : decode cX7_extend 117 = .ok (.invokevirtual 76, 3) := by decide +kernel
theorem dX7_extend_120 : decode cX7_extend 120 = .ok (.iinc 2 1, 3) := by decide +kernel
theorem dX7_extend_123 : decode cX7_extend 123 = .ok (.goto (-114), 3) := by decide +kernel
theorem dX7_extend_126 : decode cX7_extend 126 = .ok (.return_, 1) := by decide +kernel
theorem dX7_isBehind_0 : decode cX7_isBehind 0 = .ok (.aload_n 0, 1) := by decide +kernel
theorem dX7_isBehind_1 : decode cX7_isBehind 1 = .ok (.getfield 22, 3) := by decide +kernel
theorem dX7_isBehind_4 : decode cX7_isBehind 4 = .ok (.getfield 79, 3) := by decide +kernel
theorem dX7_isBehind_7 : decode cX7_isBehind 7 = .ok (.istore_n 2, 1) := by decide +kernel
theorem dX7_isBehind_8 : decode cX7_isBehind 8 = .ok (.iload_n 2, 1) := by decide +kernel
theorem dX7_isBehind_9 : decode cX7_isBehind 9 = .ok (.ifCond .eq 34, 3) := by decide +kernel
theorem dX7_isBehind_12 : decode cX7_isBehind 12 = .ok (.aload_n 0, 1) := by decide +kernel
theorem dX7_isBehind_13 : decode cX7_isBehind 13 = .ok (.getfield 18, 3) := by decide +kernel
theorem dX7_isBehind_16 : decode cX7_isBehind 16 = .ok (.getfield 82, 3) := by decide +kernel
theorem dX7_isBehind_19 : decode cX7_isBehind 19 = .ok (.iload_n 1, 1) := by decide +kernel
theorem dX7_isBehind_20 : decode cX7_isBehind 20 = .ok (.iaload, 1) := by decide +kernel
theorem dX7_isBehind_21 : decode cX7_isBehind 21 = .ok (.aload_n 0, 1) := by decide +kernel
theorem dX7_isBehind_22 : decode cX7_isBehind 22 = .ok (.getfield 18, 3) := by decide +kernel
theorem dX7_isBehind_25 : decode cX7_isBehind 25 = .ok (.getfield 82, 3) := by decide +kernel
theorem dX7_isBehind_28 : decode cX7_isBehind 28 = .ok (.aload_n 0, 1) := by decide +kernel
theorem dX7_isBehind_29 : decode cX7_isBehind 29 = .ok (.getfield 22, 3) := by decide +kernel
theorem dX7_isBehind_32 : decode cX7_isBehind 32 = .ok (.getfield 85, 3) := by decide +kernel
theorem dX7_isBehind_35 : decode cX7_isBehind 35 = .ok (.iload_n 2, 1) := by decide +kernel
theorem dX7_isBehind_36 : decode cX7_isBehind 36 = .ok (.iconst 1, 1) := by decide +kernel
theorem dX7_isBehind_37 : decode cX7_isBehind 37 = .ok (.isub, 1) := by decide +kernel
theorem dX7_isBehind_38 : decode cX7_isBehind 38 = .ok (.iaload, 1) := by decide +kernel
theorem dX7_isBehind_39 : decode cX7_isBehind 39 = .ok (.iaload, 1) := by decide +kernel
theorem dX7_isBehind_40 : decode cX7_isBehind 40 = .ok (.if_icmp .le 7, 3) := by decide +kernel
theorem dX7_isBehind_43 : decode cX7_isBehind 43 = .ok (.iconst 1, 1) := by decide +kernel
theorem dX7_isBehind_44 : decode cX7_isBehind 44 = .ok (.goto 4, 3) := by decide +kernel
theorem dX7_isBehind_47 : decode cX7_isBehind 47 = .ok (.iconst 0, 1) := by decide +kernel
theorem dX7_isBehind_48 : decode cX7_isBehind 48 = .ok (.ireturn, 1) := by decide +kernel
theorem dX7_judge_0 : decode cX7_judge 0 = .ok (.aload_n 0, 1) := by decide +kernel
theorem dX7_judge_1 : decode cX7_judge 1 = .ok (.getfield 22, 3) := by decide +kernel
theorem dX7_judge_4 : decode cX7_judge 4 = .ok (.invokevirtual 88, 3) := by decide +kernel
theorem dX7_judge_7 : decode cX7_judge 7 = .ok (.ifCond .eq 60, 3) := by decide +kernel
theorem dX7_judge_10 : decode cX7_judge 10 = .ok (.aload_n 0, 1) := by decide +kernel
theorem dX7_judge_11 : decode cX7_judge 11 = .ok (.getfield 26, 3) := by decide +kernel
theorem dX7_judge_14 : decode cX7_judge 14 = .ok (.aload_n 0, 1) := by decide +kernel
theorem dX7_judge_15 : decode cX7_judge 15 = .ok (.getfield 33, 3) := by decide +kernel
theorem dX7_judge_18 : decode cX7_judge 18 = .ok (.if_icmp .gt 22, 3) := by decide +kernel
theorem dX7_judge_21 : decode cX7_judge 21 = .ok (.aload_n 0, 1) := by decide +kernel
theorem dX7_judge_22 : decode cX7_judge 22 = .ok (.getfield 26, 3) := by decide +kernel
theorem dX7_judge_25 : decode cX7_judge 25 = .ok (.aload_n 0, 1) := by decide +kernel
theorem dX7_judge_26 : decode cX7_judge 26 = .ok (.getfield 33, 3) := by decide +kernel
theorem dX7_judge_29 : decode cX7_judge 29 = .ok (.if_icmp .ne 38, 3) := by decide +kernel
theorem dX7_judge_32 : decode cX7_judge 32 = .ok (.iload_n 1, 1) := by decide +kernel
theorem dX7_judge_33 : decode cX7_judge 33 = .ok (.aload_n 0, 1) := by decide +kernel
theorem dX7_judge_34 : decode cX7_judge 34 = .ok (.getfield 30, 3) := by decide +kernel
theorem dX7_judge_37 : decode cX7_judge 37 = .ok (.if_icmp .ge 30, 3) := by decide +kernel
theorem dX7_judge_40 : decode cX7_judge 40 = .ok (.aload_n 0, 1) := by decide +kernel
theorem dX7_judge_41 : decode cX7_judge 41 = .ok (.aload_n 0, 1) := by decide +kernel
theorem dX7_judge_42 : decode cX7_judge 42 = .ok (.getfield 26, 3) := by decide +kernel
theorem dX7_judge_45 : decode cX7_judge 45 = .ok (.putfield 33, 3) := by decide +kernel
theorem dX7_judge_48 : decode cX7_judge 48 = .ok (.aload_n 0, 1) := by decide +kernel
theorem dX7_judge_49 : decode cX7_judge 49 = .ok (.iload_n 1, 1) := by decide +kernel
theorem dX7_judge_50 : decode cX7_judge 50 = .ok (.putfield 30, 3) := by decide +kernel
theorem dX7_judge_53 : decode cX7_judge 53 = .ok (.aload_n 0, 1) := by decide +kernel
theorem dX7_judge_54 : decode cX7_judge 54 = .ok (.getfield 9, 3) := by decide +kernel
theorem dX7_judge_57 : decode cX7_judge 57 = .ok (.iconst 0, 1) := by decide +kernel
theorem dX7_judge_58 : decode cX7_judge 58 = .ok (.aload_n 0, 1) := by decide +kernel
theorem dX7_judge_59 : decode cX7_judge 59 = .ok (.getfield 15, 3) := by decide +kernel
theorem dX7_judge_62 : decode cX7_judge 62 = .ok (.iconst 0, 1) := by decide +kernel
theorem dX7_judge_63 : decode cX7_judge 63 = .ok (.iload_n 1, 1) := by decide +kernel
theorem dX7_judge_64 : decode cX7_judge 64 = .ok (.invokestatic 91, 3) := by decide +kernel
theorem dX7_judge_67 : decode cX7_judge 67 = .ok (.return_, 1) := by decide +kernel
theorem dJ9_max_7cf53_0 : decode cJ9_max_7cf53 0 = .ok (.iload_n 0, 1) := by decide +kernel
theorem dJ9_max_7cf53_1 : decode cJ9_max_7cf53 1 = .ok (.iload_n 1, 1) := by decide +kernel
theorem dJ9_max_7cf53_2 : decode cJ9_max_7cf53 2 = .ok (.if_icmp .lt 7, 3) := by decide +kernel
theorem dJ9_max_7cf53_5 : decode cJ9_max_7cf53 5 = .ok (.iload_n 0, 1) := by decide +kernel
theorem dJ9_max_7cf53_6 : decode cJ9_max_7cf53 6 = .ok (.goto 4, 3) := by decide +kernel
theorem dJ9_max_7cf53_9 : decode cJ9_max_7cf53 9 = .ok (.iload_n 1, 1) := by decide +kernel
theorem dJ9_max_7cf53_10 : decode cJ9_max_7cf53 10 = .ok (.ireturn, 1) := by decide +kernel
theorem dJ9_min_7cf53_0 : decode cJ9_min_7cf53 0 = .ok (.iload_n 0, 1) := by decide +kernel
theorem dJ9_min_7cf53_1 : decode cJ9_min_7cf53 1 = .ok (.iload_n 1, 1) := by decide +kernel
theorem dJ9_min_7cf53_2 : decode cJ9_min_7cf53 2 = .ok (.if_icmp .gt 7, 3) := by decide +kernel
theorem dJ9_min_7cf53_5 : decode cJ9_min_7cf53 5 = .ok (.iload_n 0, 1) := by decide +kernel
theorem dJ9_min_7cf53_6 : decode cJ9_min_7cf53 6 = .ok (.goto 4, 3) := by decide +kernel
theorem dJ9_min_7cf53_9 : decode cJ9_min_7cf53 9 = .ok (.iload_n 1, 1) := by decide +kernel
theorem dJ9_min_7cf53_10 : decode cJ9_min_7cf53 10 = .ok (.ireturn, 1) := by decide +kernel
theorem dJ0_length_8abf5_0 : decode cJ0_length_8abf5 0 = .ok (.aload_n 0, 1) := by decide +kernel
theorem dJ0_length_8abf5_1 : decode cJ0_length_8abf5 1 = .ok (.getfield 9, 3) := by decide +kernel
theorem dJ0_length_8abf5_4 : decode cJ0_length_8abf5 4 = .ok (.arraylength, 1) := by decide +kernel
theorem dJ0_length_8abf5_5 : decode cJ0_length_8abf5 5 = .ok (.aload_n 0, 1) := by decide +kernel
theorem dJ0_length_8abf5_6 : decode cJ0_length_8abf5 6 = .ok (.invokevirtual 335, 3) := by decide +kernel
theorem dJ0_length_8abf5_9 : decode cJ0_length_8abf5 9 = .ok (.ishr, 1) := by decide +kernel
theorem dJ0_length_8abf5_10 : decode cJ0_length_8abf5 10 = .ok (.ireturn, 1) := by decide +kernel
theorem dJ0_charAt_5068e_0 : decode cJ0_charAt_5068e 0 = .ok (.aload_n 0, 1) := by decide +kernel
theorem dJ0_charAt_5068e_1 : decode cJ0_charAt_5068e 1 = .ok (.invokevirtual 492, 3) := by decide +kernel
theorem dJ0_charAt_5068e_4 : decode cJ0_charAt_5068e 4 = .ok (.ifCond .eq 12, 3) := by decide +kernel
theorem dJ0_charAt_5068e_7 : decode cJ0_charAt_5068e 7 = .ok (.aload_n 0, 1) := by decide +kernel
theorem dJ0_charAt_5068e_8 : decode cJ0_charAt_5068e 8 = .ok (.getfield 9, 3) := by decide +kernel
theorem dJ0_charAt_5068e_11 : decode cJ0_charAt_5068e 11 = .ok (.iload_n 1, 1) := by decide +kernel
theorem dJ0_charAt_5068e_12 : decode cJ0_charAt_5068e 12 = .ok (.invokestatic 495, 3) := by decide +kernel
theorem dJ0_charAt_5068e_15 : decode cJ0_charAt_5068e 15 = .ok (.ireturn, 1) := by decide +kernel
theorem dJ0_charAt_5068e_16 : decode cJ0_charAt_5068e 16 = .ok (.aload_n 0, 1) := by decide +kernel
theorem dJ0_charAt_5068e_17 : decode cJ0_charAt_5068e 17 = .ok (.getfield 9, 3) := by decide +kernel
theorem dJ0_charAt_5068e_20 : decode cJ0_charAt_5068e 20 = .ok (.iload_n 1, 1) := by decide +kernel
theorem dJ0_charAt_5068e_21 : decode cJ0_charAt_5068e 21 = .ok (.invokestatic 498, 3) := by decide +kernel
theorem dJ0_charAt_5068e_24 : decode cJ0_charAt_5068e 24 = .ok (.ireturn, 1) := by decide +kernel
theorem dJ0_coder_7d493_0 : decode cJ0_coder_7d493 0 = .ok (.getstatic 38, 3) := by decide +kernel
theorem dJ0_coder_7d493_3 : decode cJ0_coder_7d493 3 = .ok (.ifCond .eq 10, 3) := by decide +kernel
theorem dJ0_coder_7d493_6 : decode cJ0_coder_7d493 6 = .ok (.aload_n 0, 1) := by decide +kernel
theorem dJ0_coder_7d493_7 : decode cJ0_coder_7d493 7 = .ok (.getfield 15, 3) := by decide +kernel
theorem dJ0_coder_7d493_10 : decode cJ0_coder_7d493 10 = .ok (.goto 4, 3) := by decide +kernel
theorem dJ0_coder_7d493_13 : decode cJ0_coder_7d493 13 = .ok (.iconst 1, 1) := by decide +kernel
theorem dJ0_coder_7d493_14 : decode cJ0_coder_7d493 14 = .ok (.ireturn, 1) := by decide +kernel
theorem dJ0_isLatin1_aae02_0 : decode cJ0_isLatin1_aae02 0 = .ok (.getstatic 38, 3) := by decide +kernel
theorem dJ0_isLatin1_aae02_3 : decode cJ0_isLatin1_aae02 3 = .ok (.ifCond .eq 14, 3) := by decide +kernel
theorem dJ0_isLatin1_aae02_6 : decode cJ0_isLatin1_aae02 6 = .ok (.aload_n 0, 1) := by decide +kernel
theorem dJ0_isLatin1_aae02_7 : decode cJ0_isLatin1_aae02 7 = .ok (.getfield 15, 3) := by decide +kernel
theorem dJ0_isLatin1_aae02_10 : decode cJ0_isLatin1_aae02 10 = .ok (.ifCond .ne 7, 3) := by decide +kernel
theorem dJ0_isLatin1_aae02_13 : decode cJ0_isLatin1_aae02 13 = .ok (.iconst 1, 1) := by decide +kernel
theorem dJ0_isLatin1_aae02_14 : decode cJ0_isLatin1_aae02 14 = .ok (.goto 4, 3) := by decide +kernel
theorem dJ0_isLatin1_aae02_17 : decode cJ0_isLatin1_aae02 17 = .ok (.iconst 0, 1) := by decide +kernel
theorem dJ0_isLatin1_aae02_18 : decode cJ0_isLatin1_aae02 18 = .ok (.ireturn, 1) := by decide +kernel
theorem dJ0_checkIndex_df160_0 : decode cJ0_checkIndex_df160 0 = .ok (.iload_n 0, 1) := by decide +kernel
theorem dJ0_checkIndex_df160_1 : decode cJ0_checkIndex_df160 1 = .ok (.iload_n 1, 1) := by decide +kernel
theorem dJ0_checkIndex_df160_2 : decode cJ0_checkIndex_df160 2 = .ok (.getstatic 1053, 3) := by decide +kernel
theorem dJ0_checkIndex_df160_5 : decode cJ0_checkIndex_df160 5 = .ok (.invokestatic 1059, 3) := by decide +kernel
theorem dJ0_checkIndex_df160_8 : decode cJ0_checkIndex_df160 8 = .ok (.pop, 1) := by decide +kernel
theorem dJ0_checkIndex_df160_9 : decode cJ0_checkIndex_df160 9 = .ok (.return_, 1) := by decide +kernel
theorem dJ1_charAt_3b067_0 : decode cJ1_charAt_3b067 0 = .ok (.iload_n 1, 1) := by decide +kernel
theorem dJ1_charAt_3b067_1 : decode cJ1_charAt_3b067 1 = .ok (.aload_n 0, 1) := by decide +kernel
theorem dJ1_charAt_3b067_2 : decode cJ1_charAt_3b067 2 = .ok (.arraylength, 1) := by decide +kernel
theorem dJ1_charAt_3b067_3 : decode cJ1_charAt_3b067 3 = .ok (.invokestatic 9, 3) := by decide +kernel
theorem dJ1_charAt_3b067_6 : decode cJ1_charAt_3b067 6 = .ok (.aload_n 0, 1) := by decide +kernel
theorem dJ1_charAt_3b067_7 : decode cJ1_charAt_3b067 7 = .ok (.iload_n 1, 1) := by decide +kernel
theorem dJ1_charAt_3b067_8 : decode cJ1_charAt_3b067 8 = .ok (.baload, 1) := by decide +kernel
theorem dJ1_charAt_3b067_9 : decode cJ1_charAt_3b067 9 = .ok (.sipush 255, 3) := by decide +kernel
theorem dJ1_charAt_3b067_12 : decode cJ1_charAt_3b067 12 = .ok (.iand, 1) := by decide +kernel
theorem dJ1_charAt_3b067_13 : decode cJ1_charAt_3b067 13 = .ok (.i2c, 1) := by decide +kernel
theorem dJ1_charAt_3b067_14 : decode cJ1_charAt_3b067 14 = .ok (.ireturn, 1) := by decide +kernel
theorem dJ2_getChar_3b067_0 : decode cJ2_getChar_3b067 0 = .ok (.getstatic 44, 3) := by decide +kernel
theorem dJ2_getChar_3b067_3 : decode cJ2_getChar_3b067 3 = .ok (.ifCond .ne 25, 3) := by decide +kernel
theorem dJ2_getChar_3b067_6 : decode cJ2_getChar_3b067 6 = .ok (.iload_n 1, 1) := by decide +kernel
theorem dJ2_getChar_3b067_7 : decode cJ2_getChar_3b067 7 = .ok (.ifCond .lt 11, 3) := by decide +kernel
theorem dJ2_getChar_3b067_10 : decode cJ2_getChar_3b067 10 = .ok (.iload_n 1, 1) := by decide +kernel
theorem dJ2_getChar_3b067_11 : decode cJ2_getChar_3b067 11 = .ok (.aload_n 0, 1) := by decide +kernel
theorem dJ2_getChar_3b067_12 : decode cJ2_getChar_3b067 12 = .ok (.invokestatic 48, 3) := by decide +kernel
theorem dJ2_getChar_3b067_15 : decode cJ2_getChar_3b067 15 = .ok (.if_icmp .lt 13, 3) := by decide +kernel
theorem dJ2_getChar_3b067_18 : decode cJ2_getChar_3b067 18 = .ok (.new 52, 3) := by decide +kernel
theorem dJ2_getChar_3b067_21 : decode cJ2_getChar_3b067 21 = .ok (.dup, 1) := by decide +kernel
theorem dJ2_getChar_3b067_22 : decode cJ2_getChar_3b067 22 = .ok (.ldc 54, 2) := by decide +kernel
theorem dJ2_getChar_3b067_24 : decode cJ2_getChar_3b067 24 = .ok (.invokespecial 56, 3) := by decide +kernel
theorem dJ2_getChar_3b067_27 : decode cJ2_getChar_3b067 27 = .ok (.athrow, 1) := by decide +kernel
theorem dJ2_getChar_3b067_28 : decode cJ2_getChar_3b067 28 = .ok (.iload_n 1, 1) := by decide +kernel
theorem dJ2_getChar_3b067_29 : decode cJ2_getChar_3b067 29 = .ok (.iconst 1, 1) := by decide +kernel
theorem dJ2_getChar_3b067_30 : decode cJ2_getChar_3b067 30 = .ok (.ishl, 1) := by decide +kernel
theorem dJ2_getChar_3b067_31 : decode cJ2_getChar_3b067 31 = .ok (.istore_n 1, 1) := by decide +kernel
theorem dJ2_getChar_3b067_32 : decode cJ2_getChar_3b067 32 = .ok (.aload_n 0, 1) := by decide +kernel
theorem dJ2_getChar_3b067_33 : decode cJ2_getChar_3b067 33 = .ok (.iload_n 1, 1) := by decide +kernel
theorem dJ2_getChar_3b067_34 : decode cJ2_getChar_3b067 34 = .ok (.iinc 1 1, 3) := by decide +kernel
theorem dJ2_getChar_3b067_37 : decode cJ2_getChar_3b067 37 = .ok (.baload, 1) := by decide +kernel
theorem dJ2_getChar_3b067_38 : decode cJ2_getChar_3b067 38 = .ok (.sipush 255, 3) := by decide +kernel
theorem dJ2_getChar_3b067_41 : decode cJ2_getChar_3b067 41 = .ok (.iand, 1) := by decide +kernel
theorem dJ2_getChar_3b067_42 : decode cJ2_getChar_3b067 42 = .ok (.getstatic 59, 3) := by decide +kernel
theorem dJ2_getChar_3b067_45 : decode cJ2_getChar_3b067 45 = .ok (.ishl, 1) := by decide +kernel
theorem dJ2_getChar_3b067_46 : decode cJ2_getChar_3b067 46 = .ok (.aload_n 0, 1) := by decide +kernel
theorem dJ2_getChar_3b067_47 : decode cJ2_getChar_3b067 47 = .ok (.iload_n 1, 1) := by decide +kernel
theorem dJ2_getChar_3b067_48 : decode cJ2_getChar_3b067 48 = .ok (.baload, 1) := by decide +kernel
theorem dJ2_getChar_3b067_49 : decode cJ2_getChar_3b067 49 = .ok (.sipush 255, 3) := by decide +kernel
theorem dJ2_getChar_3b067_52 : decode cJ2_getChar_3b067 52 = .ok (.iand, 1) := by decide +kernel
theorem dJ2_getChar_3b067_53 : decode cJ2_getChar_3b067 53 = .ok (.getstatic 63, 3) := by decide +kernel
theorem dJ2_getChar_3b067_56 : decode cJ2_getChar_3b067 56 = .ok (.ishl, 1) := by decide +kernel
theorem dJ2_getChar_3b067_57 : decode cJ2_getChar_3b067 57 = .ok (.ior, 1) := by decide +kernel
theorem dJ2_getChar_3b067_58 : decode cJ2_getChar_3b067 58 = .ok (.i2c, 1) := by decide +kernel
theorem dJ2_getChar_3b067_59 : decode cJ2_getChar_3b067 59 = .ok (.ireturn, 1) := by decide +kernel
theorem dJ2_length_9d52b_0 : decode cJ2_length_9d52b 0 = .ok (.aload_n 0, 1) := by decide +kernel
theorem dJ2_length_9d52b_1 : decode cJ2_length_9d52b 1 = .ok (.arraylength, 1) := by decide +kernel
theorem dJ2_length_9d52b_2 : decode cJ2_length_9d52b 2 = .ok (.iconst 1, 1) := by decide +kernel
theorem dJ2_length_9d52b_3 : decode cJ2_length_9d52b 3 = .ok (.ishr, 1) := by decide +kernel
theorem dJ2_length_9d52b_4 : decode cJ2_length_9d52b 4 = .ok (.ireturn, 1) := by decide +kernel
theorem dJ2_charAt_3b067_0 : decode cJ2_charAt_3b067 0 = .ok (.iload_n 1, 1) := by decide +kernel
theorem dJ2_charAt_3b067_1 : decode cJ2_charAt_3b067 1 = .ok (.aload_n 0, 1) := by decide +kernel
theorem dJ2_charAt_3b067_2 : decode cJ2_charAt_3b067 2 = .ok (.invokestatic 67, 3) := by decide +kernel
theorem dJ2_charAt_3b067_5 : decode cJ2_charAt_3b067 5 = .ok (.aload_n 0, 1) := by decide +kernel
theorem dJ2_charAt_3b067_6 : decode cJ2_charAt_3b067 6 = .ok (.iload_n 1, 1) := by decide +kernel
theorem dJ2_charAt_3b067_7 : decode cJ2_charAt_3b067 7 = .ok (.invokestatic 71, 3) := by decide +kernel
theorem dJ2_charAt_3b067_10 : decode cJ2_charAt_3b067 10 = .ok (.ireturn, 1) := by decide +kernel
theorem dJ2_checkIndex_2214a_0 : decode cJ2_checkIndex_2214a 0 = .ok (.iload_n 0, 1) := by decide +kernel
theorem dJ2_checkIndex_2214a_1 : decode cJ2_checkIndex_2214a 1 = .ok (.aload_n 1, 1) := by decide +kernel
theorem dJ2_checkIndex_2214a_2 : decode cJ2_checkIndex_2214a 2 = .ok (.invokestatic 48, 3) := by decide +kernel
theorem dJ2_checkIndex_2214a_5 : decode cJ2_checkIndex_2214a 5 = .ok (.invokestatic 414, 3) := by decide +kernel
theorem dJ2_checkIndex_2214a_8 : decode cJ2_checkIndex_2214a 8 = .ok (.return_, 1) := by decide +kernel
theorem dJ3_checkIndex_8e157_0 : decode cJ3_checkIndex_8e157 0 = .ok (.iload_n 0, 1) := by decide +kernel
theorem dJ3_checkIndex_8e157_1 : decode cJ3_checkIndex_8e157 1 = .ok (.ifCond .lt 8, 3) := by decide +kernel
theorem dJ3_checkIndex_8e157_4 : decode cJ3_checkIndex_8e157 4 = .ok (.iload_n 0, 1) := by decide +kernel
theorem dJ3_checkIndex_8e157_5 : decode cJ3_checkIndex_8e157 5 = .ok (.iload_n 1, 1) := by decide +kernel
theorem dJ3_checkIndex_8e157_6 : decode cJ3_checkIndex_8e157 6 = .ok (.if_icmp .lt 10, 3) := by decide +kernel
theorem dJ3_checkIndex_8e157_9 : decode cJ3_checkIndex_8e157 9 = .ok (.aload_n 2, 1) := by decide +kernel
theorem dJ3_checkIndex_8e157_10 : decode cJ3_checkIndex_8e157 10 = .ok (.iload_n 0, 1) := by decide +kernel
theorem dJ3_checkIndex_8e157_11 : decode cJ3_checkIndex_8e157 11 = .ok (.iload_n 1, 1) := by decide +kernel
theorem dJ3_checkIndex_8e157_12 : decode cJ3_checkIndex_8e157 12 = .ok (.invokestatic 95, 3) := by decide +kernel
theorem dJ3_checkIndex_8e157_15 : decode cJ3_checkIndex_8e157 15 = .ok (.athrow, 1) := by decide +kernel
theorem dJ3_checkIndex_8e157_16 : decode cJ3_checkIndex_8e157 16 = .ok (.iload_n 0, 1) := by decide +kernel
theorem dJ3_checkIndex_8e157_17 : decode cJ3_checkIndex_8e157 17 = .ok (.ireturn, 1) := by decide +kernel
