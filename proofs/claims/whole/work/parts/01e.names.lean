theorem dX8_init_0 : decode cX8_init 0 = .ok (.aload_n 0, 1) := by decide +kernel
theorem dX8_init_1 : decode cX8_init 1 = .ok (.invokespecial 1, 3) := by decide +kernel
theorem dX8_init_4 : decode cX8_init 4 = .ok (.aload_n 0, 1) := by decide +kernel
theorem dX8_init_5 : decode cX8_init 5 = .ok (.sipush 130, 3) := by decide +kernel
theorem dX8_init_8 : decode cX8_init 8 = .ok (.newarray .int, 2) := by decide +kernel
theorem dX8_init_10 : decode cX8_init 10 = .ok (.putfield 7, 3) := by decide +kernel
theorem dX8_init_13 : decode cX8_init 13 = .ok (.aload_n 0, 1) := by decide +kernel
theorem dX8_init_14 : decode cX8_init 14 = .ok (.sipush 780, 3) := by decide +kernel
theorem dX8_init_17 : decode cX8_init 17 = .ok (.newarray .int, 2) := by decide +kernel
theorem dX8_init_19 : decode cX8_init 19 = .ok (.putfield 13, 3) := by decide +kernel
theorem dX8_init_22 : decode cX8_init 22 = .ok (.aload_n 0, 1) := by decide +kernel
theorem dX8_init_23 : decode cX8_init 23 = .ok (.sipush 260, 3) := by decide +kernel
theorem dX8_init_26 : decode cX8_init 26 = .ok (.newarray .int, 2) := by decide +kernel
theorem dX8_init_28 : decode cX8_init 28 = .ok (.putfield 16, 3) := by decide +kernel
theorem dX8_init_31 : decode cX8_init 31 = .ok (.aload_n 0, 1) := by decide +kernel
theorem dX8_init_32 : decode cX8_init 32 = .ok (.iconst 2, 1) := by decide +kernel
theorem dX8_init_33 : decode cX8_init 33 = .ok (.newarray .boolean, 2) := by decide +kernel
theorem dX8_init_35 : decode cX8_init 35 = .ok (.putfield 19, 3) := by decide +kernel
theorem dX8_init_38 : decode cX8_init 38 = .ok (.aload_n 0, 1) := by decide +kernel
theorem dX8_init_39 : decode cX8_init 39 = .ok (.bipush 80, 2) := by decide +kernel
theorem dX8_init_41 : decode cX8_init 41 = .ok (.newarray .int, 2) := by decide +kernel
theorem dX8_init_43 : decode cX8_init 43 = .ok (.putfield 23, 3) := by decide +kernel
theorem dX8_init_46 : decode cX8_init 46 = .ok (.aload_n 0, 1) := by decide +kernel
theorem dX8_init_47 : decode cX8_init 47 = .ok (.bipush 16, 2) := by decide +kernel
theorem dX8_init_49 : decode cX8_init 49 = .ok (.newarray .int, 2) := by decide +kernel
theorem dX8_init_51 : decode cX8_init 51 = .ok (.putfield 26, 3) := by decide +kernel
theorem dX8_init_54 : decode cX8_init 54 = .ok (.aload_n 0, 1) := by decide +kernel
theorem dX8_init_55 : decode cX8_init 55 = .ok (.bipush 16, 2) := by decide +kernel
theorem dX8_init_57 : decode cX8_init 57 = .ok (.newarray .boolean, 2) := by decide +kernel
theorem dX8_init_59 : decode cX8_init 59 = .ok (.putfield 29, 3) := by decide +kernel
theorem dX8_init_62 : decode cX8_init 62 = .ok (.aload_n 0, 1) := by decide +kernel
theorem dX8_init_63 : decode cX8_init 63 = .ok (.bipush 16, 2) := by decide +kernel
theorem dX8_init_65 : decode cX8_init 65 = .ok (.newarray .int, 2) := by decide +kernel
theorem dX8_init_67 : decode cX8_init 67 = .ok (.putfield 32, 3) := by decide +kernel
theorem dX8_init_70 : decode cX8_init 70 = .ok (.aload_n 0, 1) := by decide +kernel
theorem dX8_init_71 : decode cX8_init 71 = .ok (.bipush 16, 2) := by decide +kernel
theorem dX8_init_73 : decode cX8_init 73 = .ok (.newarray .int, 2) := by decide +kernel
theorem dX8_init_75 : decode cX8_init 75 = .ok (.putfield 35, 3) := by decide +kernel
theorem dX8_init_78 : decode cX8_init 78 = .ok (.aload_n 0, 1) := by decide +kernel
theorem dX8_init_79 : decode cX8_init 79 = .ok (.bipush 16, 2) := by decide +kernel
theorem dX8_init_81 : decode cX8_init 81 = .ok (.newarray .int, 2) := by decide +kernel
theorem dX8_init_83 : decode cX8_init 83 = .ok (.putfield 38, 3) := by decide +kernel
theorem dX8_init_86 : decode cX8_init 86 = .ok (.aload_n 0, 1) := by decide +kernel
theorem dX8_init_87 : decode cX8_init 87 = .ok (.bipush 16, 2) := by decide +kernel
theorem dX8_init_89 : decode cX8_init 89 = .ok (.newarray .int, 2) := by decide +kernel
theorem dX8_init_91 : decode cX8_init 91 = .ok (.putfield 41, 3) := by decide +kernel
theorem dX8_init_94 : decode cX8_init 94 = .ok (.aload_n 0, 1) := by decide +kernel
theorem dX8_init_95 : decode cX8_init 95 = .ok (.bipush 16, 2) := by decide +kernel
theorem dX8_init_97 : decode cX8_init 97 = .ok (.newarray .int, 2) := by decide +kernel
theorem dX8_init_99 : decode cX8_init 99 = .ok (.putfield 44, 3) := by decide +kernel
theorem dX8_init_102 : decode cX8_init 102 = .ok (.aload_n 0, 1) := by decide +kernel
theorem dX8_init_103 : decode cX8_init 103 = .ok (.bipush 16, 2) := by decide +kernel
theorem dX8_init_105 : decode cX8_init 105 = .ok (.newarray .boolean, 2) := by decide +kernel
theorem dX8_init_107 : decode cX8_init 107 = .ok (.putfield 47, 3) := by decide +kernel
theorem dX8_init_110 : decode cX8_init 110 = .ok (.aload_n 0, 1) := by decide +kernel
theorem dX8_init_111 : decode cX8_init 111 = .ok (.bipush 17, 2) := by decide +kernel
theorem dX8_init_113 : decode cX8_init 113 = .ok (.newarray .int, 2) := by decide +kernel
theorem dX8_init_115 : decode cX8_init 115 = .ok (.putfield 50, 3) := by decide +kernel
theorem dX8_init_118 : decode cX8_init 118 = .ok (.aload_n 0, 1) := by decide +kernel
theorem dX8_init_119 : decode cX8_init 119 = .ok (.iconst 0, 1) := by decide +kernel
theorem dX8_init_120 : decode cX8_init 120 = .ok (.putfield 53, 3) := by decide +kernel
theorem dX8_init_123 : decode cX8_init 123 = .ok (.aload_n 0, 1) := by decide +kernel
theorem dX8_init_124 : decode cX8_init 124 = .ok (.bipush 8, 2) := by decide +kernel
theorem dX8_init_126 : decode cX8_init 126 = .ok (.invokevirtual 57, 3) := by decide +kernel
theorem dX8_init_129 : decode cX8_init 129 = .ok (.return_, 1) := by decide +kernel
theorem dX8_in_0 : decode cX8_in 0 = .ok (.iload_n 0, 1) := by decide +kernel
theorem dX8_in_1 : decode cX8_in 1 = .ok (.iload_n 1, 1) := by decide +kernel
theorem dX8_in_2 : decode cX8_in 2 = .ok (.if_icmp .lt 12, 3) := by decide +kernel
theorem dX8_in_5 : decode cX8_in 5 = .ok (.iload_n 0, 1) := by decide +kernel
theorem dX8_in_6 : decode cX8_in 6 = .ok (.iload_n 2, 1) := by decide +kernel
theorem dX8_in_7 : decode cX8_in 7 = .ok (.if_icmp .gt 7, 3) := by decide +kernel
theorem dX8_in_10 : decode cX8_in 10 = .ok (.iconst 1, 1) := by decide +kernel
theorem dX8_in_11 : decode cX8_in 11 = .ok (.goto 4, 3) := by decide +kernel
theorem dX8_in_14 : decode cX8_in 14 = .ok (.iconst 0, 1) := by decide +kernel
theorem dX8_in_15 : decode cX8_in 15 = .ok (.ireturn, 1) := by decide +kernel
theorem dX8_begins_0 : decode cX8_begins 0 = .ok (.iconst 0, 1) := by decide +kernel
theorem dX8_begins_1 : decode cX8_begins 1 = .ok (.istore_n 2, 1) := by decide +kernel
theorem dX8_begins_2 : decode cX8_begins 2 = .ok (.iload_n 2, 1) := by decide +kernel
theorem dX8_begins_3 : decode cX8_begins 3 = .ok (.sipush 130, 3) := by decide +kernel
theorem dX8_begins_6 : decode cX8_begins 6 = .ok (.if_icmp .ge 16, 3) := by decide +kernel
theorem dX8_begins_9 : decode cX8_begins 9 = .ok (.aload_n 0, 1) := by decide +kernel
theorem dX8_begins_10 : decode cX8_begins 10 = .ok (.getfield 7, 3) := by decide +kernel
theorem dX8_begins_13 : decode cX8_begins 13 = .ok (.iload_n 2, 1) := by decide +kernel
theorem dX8_begins_14 : decode cX8_begins 14 = .ok (.iconst 0, 1) := by decide +kernel
theorem dX8_begins_15 : decode cX8_begins 15 = .ok (.iastore, 1) := by decide +kernel
theorem dX8_begins_16 : decode cX8_begins 16 = .ok (.iinc 2 1, 3) := by decide +kernel
theorem dX8_begins_19 : decode cX8_begins 19 = .ok (.goto (-17), 3) := by decide +kernel
theorem dX8_begins_22 : decode cX8_begins 22 = .ok (.aload_n 0, 1) := by decide +kernel
theorem dX8_begins_23 : decode cX8_begins 23 = .ok (.getfield 7, 3) := by decide +kernel
theorem dX8_begins_26 : decode cX8_begins 26 = .ok (.iconst 0, 1) := by decide +kernel
theorem dX8_begins_27 : decode cX8_begins 27 = .ok (.iload_n 1, 1) := by decide +kernel
theorem dX8_begins_28 : decode cX8_begins 28 = .ok (.iastore, 1) := by decide +kernel
theorem dX8_begins_29 : decode cX8_begins 29 = .ok (.iconst 0, 1) := by decide +kernel
theorem dX8_begins_30 : decode cX8_begins 30 = .ok (.istore_n 2, 1) := by decide +kernel
theorem dX8_begins_31 : decode cX8_begins 31 = .ok (.iload_n 2, 1) := by decide +kernel
theorem dX8_begins_32 : decode cX8_begins 32 = .ok (.iload_n 1, 1) := by decide +kernel
theorem dX8_begins_33 : decode cX8_begins 33 = .ok (.if_icmp .ge 28, 3) := by decide +kernel
theorem dX8_begins_36 : decode cX8_begins 36 = .ok (.aload_n 0, 1) := by decide +kernel
theorem dX8_begins_37 : decode cX8_begins 37 = .ok (.getfield 7, 3) := by decide +kernel
theorem dX8_begins_40 : decode cX8_begins 40 = .ok (.iconst 2, 1) := by decide +kernel
theorem dX8_begins_41 : decode cX8_begins 41 = .ok (.iload_n 2, 1) := by decide +kernel
theorem dX8_begins_42 : decode cX8_begins 42 = .ok (.iadd, 1) := by decide +kernel
theorem dX8_begins_43 : decode cX8_begins 43 = .ok (.iload_n 2, 1) := by decide +kernel
theorem dX8_begins_44 : decode cX8_begins 44 = .ok (.iastore, 1) := by decide +kernel
theorem dX8_begins_45 : decode cX8_begins 45 = .ok (.aload_n 0, 1) := by decide +kernel
theorem dX8_begins_46 : decode cX8_begins 46 = .ok (.getfield 7, 3) := by decide +kernel
theorem dX8_begins_49 : decode cX8_begins 49 = .ok (.bipush 18, 2) := by decide +kernel
theorem dX8_begins_51 : decode cX8_begins 51 = .ok (.iload_n 2, 1) := by decide +kernel
theorem dX8_begins_52 : decode cX8_begins 52 = .ok (.iadd, 1) := by decide +kernel
theorem dX8_begins_53 : decode cX8_begins 53 = .ok (.iload_n 2, 1) := by decide +kernel
theorem dX8_begins_54 : decode cX8_begins 54 = .ok (.iastore, 1) := by decide +kernel
theorem dX8_begins_55 : decode cX8_begins 55 = .ok (.iinc 2 1, 3) := by decide +kernel
theorem dX8_begins_58 : decode cX8_begins 58 = .ok (.goto (-27), 3) := by decide +kernel
theorem dX8_begins_61 : decode cX8_begins 61 = .ok (.return_, 1) := by decide +kernel
theorem dX8_records_0 : decode cX8_records 0 = .ok (.aload_n 0, 1) := by decide +kernel
theorem dX8_records_1 : decode cX8_records 1 = .ok (.getfield 61, 3) := by decide +kernel
theorem dX8_records_4 : decode cX8_records 4 = .ok (.bipush 6, 2) := by decide +kernel
theorem dX8_records_6 : decode cX8_records 6 = .ok (.if_icmp .ne 44, 3) := by decide +kernel
theorem dX8_records_9 : decode cX8_records 9 = .ok (.iconst 0, 1) := by decide +kernel
theorem dX8_records_10 : decode cX8_records 10 = .ok (.istore_n 1, 1) := by decide +kernel
theorem dX8_records_11 : decode cX8_records 11 = .ok (.iload_n 1, 1) := by decide +kernel
theorem dX8_records_12 : decode cX8_records 12 = .ok (.sipush 650, 3) := by decide +kernel
theorem dX8_records_15 : decode cX8_records 15 = .ok (.if_icmp .ge 25, 3) := by decide +kernel
theorem dX8_records_18 : decode cX8_records 18 = .ok (.aload_n 0, 1) := by decide +kernel
theorem dX8_records_19 : decode cX8_records 19 = .ok (.getfield 13, 3) := by decide +kernel
theorem dX8_records_22 : decode cX8_records 22 = .ok (.iload_n 1, 1) := by decide +kernel
theorem dX8_records_23 : decode cX8_records 23 = .ok (.aload_n 0, 1) := by decide +kernel
theorem dX8_records_24 : decode cX8_records 24 = .ok (.getfield 13, 3) := by decide +kernel
theorem dX8_records_27 : decode cX8_records 27 = .ok (.iload_n 1, 1) := by decide +kernel
theorem dX8_records_28 : decode cX8_records 28 = .ok (.sipush 130, 3) := by decide +kernel
theorem dX8_records_31 : decode cX8_records 31 = .ok (.iadd, 1) := by decide +kernel
theorem dX8_records_32 : decode cX8_records 32 = .ok (.iaload, 1) := by decide +kernel
theorem dX8_records_33 : decode cX8_records 33 = .ok (.iastore, 1) := by decide +kernel
theorem dX8_records_34 : decode cX8_records 34 = .ok (.iinc 1 1, 3) := by decide +kernel
theorem dX8_records_37 : decode cX8_records 37 = .ok (.goto (-26), 3) := by decide +kernel
theorem dX8_records_40 : decode cX8_records 40 = .ok (.aload_n 0, 1) := by decide +kernel
theorem dX8_records_41 : decode cX8_records 41 = .ok (.dup, 1) := by decide +kernel
theorem dX8_records_42 : decode cX8_records 42 = .ok (.getfield 61, 3) := by decide +kernel
theorem dX8_records_45 : decode cX8_records 45 = .ok (.iconst 1, 1) := by decide +kernel
theorem dX8_records_46 : decode cX8_records 46 = .ok (.isub, 1) := by decide +kernel
theorem dX8_records_47 : decode cX8_records 47 = .ok (.putfield 61, 3) := by decide +kernel
theorem dX8_records_50 : decode cX8_records 50 = .ok (.iconst 0, 1) := by decide +kernel
theorem dX8_records_51 : decode cX8_records 51 = .ok (.istore_n 1, 1) := by decide +kernel
theorem dX8_records_52 : decode cX8_records 52 = .ok (.iload_n 1, 1) := by decide +kernel
theorem dX8_records_53 : decode cX8_records 53 = .ok (.sipush 130, 3) := by decide +kernel
theorem dX8_records_56 : decode cX8_records 56 = .ok (.if_icmp .ge 30, 3) := by decide +kernel
theorem dX8_records_59 : decode cX8_records 59 = .ok (.aload_n 0, 1) := by decide +kernel
theorem dX8_records_60 : decode cX8_records 60 = .ok (.getfield 13, 3) := by decide +kernel
theorem dX8_records_63 : decode cX8_records 63 = .ok (.sipush 130, 3) := by decide +kernel
theorem dX8_records_66 : decode cX8_records 66 = .ok (.aload_n 0, 1) := by decide +kernel
theorem dX8_records_67 : decode cX8_records 67 = .ok (.getfield 61, 3) := by decide +kernel
theorem dX8_records_70 : decode cX8_records 70 = .ok (.imul, 1) := by decide +kernel
theorem dX8_records_71 : decode cX8_records 71 = .ok (.iload_n 1, 1) := by decide +kernel
theorem dX8_records_72 : decode cX8_records 72 = .ok (.iadd, 1) := by decide +kernel
theorem dX8_records_73 : decode cX8_records 73 = .ok (.aload_n 0, 1) := by decide +kernel
theorem dX8_records_74 : decode cX8_records 74 = .ok (.getfield 7, 3) := by decide +kernel
theorem dX8_records_77 : decode cX8_records 77 = .ok (.iload_n 1, 1) := by decide +kernel
theorem dX8_records_78 : decode cX8_records 78 = .ok (.iaload, 1) := by decide +kernel
theorem dX8_records_79 : decode cX8_records 79 = .ok (.iastore, 1) := by decide +kernel
theorem dX8_records_80 : decode cX8_records 80 = .ok (.iinc 1 1, 3) := by decide +kernel
theorem dX8_records_83 : decode cX8_records 83 = .ok (.goto (-31), 3) := by decide +kernel
theorem dX8_records_86 : decode cX8_records 86 = .ok (.aload_n 0, 1) := by decide +kernel
theorem dX8_records_87 : decode cX8_records 87 = .ok (.dup, 1) := by decide +kernel
theorem dX8_records_88 : decode cX8_records 88 = .ok (.getfield 61, 3) := by decide +kernel
theorem dX8_records_91 : decode cX8_records 91 = .ok (.iconst 1, 1) := by decide +kernel
theorem dX8_records_92 : decode cX8_records 92 = .ok (.iadd, 1) := by decide +kernel
theorem dX8_records_93 : decode cX8_records 93 = .ok (.putfield 61, 3) := by decide +kernel
theorem dX8_records_96 : decode cX8_records 96 = .ok (.return_, 1) := by decide +kernel
theorem dX8_isMark_0 : decode cX8_isMark 0 = .ok (.iload_n 1, 1) := by decide +kernel
theorem dX8_isMark_1 : decode cX8_isMark 1 = .ok (.iconst 0, 1) := by decide +kernel
theorem dX8_isMark_2 : decode cX8_isMark 2 = .ok (.aload_n 0, 1) := by decide +kernel
theorem dX8_isMark_3 : decode cX8_isMark 3 = .ok (.getfield 7, 3) := by decide +kernel
theorem dX8_isMark_6 : decode cX8_isMark 6 = .ok (.iconst 1, 1) := by decide +kernel
theorem dX8_isMark_7 : decode cX8_isMark 7 = .ok (.iaload, 1) := by decide +kernel
theorem dX8_isMark_8 : decode cX8_isMark 8 = .ok (.iconst 1, 1) := by decide +kernel
theorem dX8_isMark_9 : decode cX8_isMark 9 = .ok (.isub, 1) := by decide +kernel
theorem dX8_isMark_10 : decode cX8_isMark 10 = .ok (.invokestatic 64, 3) := by decide +kernel
theorem dX8_isMark_13 : decode cX8_isMark 13 = .ok (.ireturn, 1) := by decide +kernel
theorem dX8_isMarkOrTrick_0 : decode cX8_isMarkOrTrick 0 = .ok (.iload_n 1, 1) := by decide +kernel
theorem dX8_isMarkOrTrick_1 : decode cX8_isMarkOrTrick 1 = .ok (.bipush (-6), 2) := by decide +kernel
theorem dX8_isMarkOrTrick_3 : decode cX8_isMarkOrTrick 3 = .ok (.if_icmp .eq 11, 3) := by decide +kernel
theorem dX8_isMarkOrTrick_6 : decode cX8_isMarkOrTrick 6 = .ok (.aload_n 0, 1) := by decide +kernel
theorem dX8_isMarkOrTrick_7 : decode cX8_isMarkOrTrick 7 = .ok (.iload_n 1, 1) := by decide +kernel
theorem dX8_isMarkOrTrick_8 : decode cX8_isMarkOrTrick 8 = .ok (.invokevirtual 68, 3) := by decide +kernel
theorem dX8_isMarkOrTrick_11 : decode cX8_isMarkOrTrick 11 = .ok (.ifCond .eq 7, 3) := by decide +kernel
theorem dX8_isMarkOrTrick_14 : decode cX8_isMarkOrTrick 14 = .ok (.iconst 1, 1) := by decide +kernel
theorem dX8_isMarkOrTrick_15 : decode cX8_isMarkOrTrick 15 = .ok (.goto 4, 3) := by decide +kernel
theorem dX8_isMarkOrTrick_18 : decode cX8_isMarkOrTrick 18 = .ok (.iconst 0, 1) := by decide +kernel
theorem dX8_isMarkOrTrick_19 : decode cX8_isMarkOrTrick 19 = .ok (.ireturn, 1) := by decide +kernel
theorem dX8_isPlace_0 : decode cX8_isPlace 0 = .ok (.iload_n 1, 1) := by decide +kernel
theorem dX8_isPlace_1 : decode cX8_isPlace 1 = .ok (.iconst 0, 1) := by decide +kernel
theorem dX8_isPlace_2 : decode cX8_isPlace 2 = .ok (.aload_n 0, 1) := by decide +kernel
theorem dX8_isPlace_3 : decode cX8_isPlace 3 = .ok (.getfield 7, 3) := by decide +kernel
theorem dX8_isPlace_6 : decode cX8_isPlace 6 = .ok (.iconst 0, 1) := by decide +kernel
theorem dX8_isPlace_7 : decode cX8_isPlace 7 = .ok (.iaload, 1) := by decide +kernel
theorem dX8_isPlace_8 : decode cX8_isPlace 8 = .ok (.iconst 1, 1) := by decide +kernel
theorem dX8_isPlace_9 : decode cX8_isPlace 9 = .ok (.isub, 1) := by decide +kernel
theorem dX8_isPlace_10 : decode cX8_isPlace 10 = .ok (.invokestatic 64, 3) := by decide +kernel
theorem dX8_isPlace_13 : decode cX8_isPlace 13 = .ok (.ireturn, 1) := by decide +kernel
theorem dX8_goesTo_0 : decode cX8_goesTo 0 = .ok (.iload_n 1, 1) := by decide +kernel
theorem dX8_goesTo_1 : decode cX8_goesTo 1 = .ok (.bipush (-6), 2) := by decide +kernel
theorem dX8_goesTo_3 : decode cX8_goesTo 3 = .ok (.if_icmp .ne 15, 3) := by decide +kernel
theorem dX8_goesTo_6 : decode cX8_goesTo 6 = .ok (.aload_n 0, 1) := by decide +kernel
theorem dX8_goesTo_7 : decode cX8_goesTo 7 = .ok (.getfield 7, 3) := by decide +kernel
theorem dX8_goesTo_10 : decode cX8_goesTo 10 = .ok (.bipush 18, 2) := by decide +kernel
theorem dX8_goesTo_12 : decode cX8_goesTo 12 = .ok (.iload_n 2, 1) := by decide +kernel
theorem dX8_goesTo_13 : decode cX8_goesTo 13 = .ok (.iadd, 1) := by decide +kernel
theorem dX8_goesTo_14 : decode cX8_goesTo 14 = .ok (.iaload, 1) := by decide +kernel
theorem dX8_goesTo_15 : decode cX8_goesTo 15 = .ok (.goto 17, 3) := by decide +kernel
theorem dX8_goesTo_18 : decode cX8_goesTo 18 = .ok (.aload_n 0, 1) := by decide +kernel
theorem dX8_goesTo_19 : decode cX8_goesTo 19 = .ok (.getfield 7, 3) := by decide +kernel
theorem dX8_goesTo_22 : decode cX8_goesTo 22 = .ok (.bipush 34, 2) := by decide +kernel
theorem dX8_goesTo_24 : decode cX8_goesTo 24 = .ok (.bipush 16, 2) := by decide +kernel
theorem dX8_goesTo_26 : decode cX8_goesTo 26 = .ok (.iload_n 1, 1) := by decide +kernel
theorem dX8_goesTo_27 : decode cX8_goesTo 27 = .ok (.imul, 1) := by decide +kernel
theorem dX8_goesTo_28 : decode cX8_goesTo 28 = .ok (.iadd, 1) := by decide +kernel
theorem dX8_goesTo_29 : decode cX8_goesTo 29 = .ok (.iload_n 2, 1) := by decide +kernel
theorem dX8_goesTo_30 : decode cX8_goesTo 30 = .ok (.iadd, 1) := by decide +kernel
theorem dX8_goesTo_31 : decode cX8_goesTo 31 = .ok (.iaload, 1) := by decide +kernel
theorem dX8_goesTo_32 : decode cX8_goesTo 32 = .ok (.ireturn, 1) := by decide +kernel
theorem dX8_fetches_0 : decode cX8_fetches 0 = .ok (.iconst 0, 1) := by decide +kernel
theorem dX8_fetches_1 : decode cX8_fetches 1 = .ok (.istore_n 3, 1) := by decide +kernel
theorem dX8_fetches_2 : decode cX8_fetches 2 = .ok (.iload_n 3, 1) := by decide +kernel
theorem dX8_fetches_3 : decode cX8_fetches 3 = .ok (.aload_n 0, 1) := by decide +kernel
theorem dX8_fetches_4 : decode cX8_fetches 4 = .ok (.getfield 7, 3) := by decide +kernel
theorem dX8_fetches_7 : decode cX8_fetches 7 = .ok (.iconst 0, 1) := by decide +kernel
theorem dX8_fetches_8 : decode cX8_fetches 8 = .ok (.iaload, 1) := by decide +kernel
theorem dX8_fetches_9 : decode cX8_fetches 9 = .ok (.if_icmp .ge 18, 3) := by decide +kernel
theorem dX8_fetches_12 : decode cX8_fetches 12 = .ok (.aload_n 1, 1) := by decide +kernel
theorem dX8_fetches_13 : decode cX8_fetches 13 = .ok (.iload_n 3, 1) := by decide +kernel
theorem dX8_fetches_14 : decode cX8_fetches 14 = .ok (.aload_n 0, 1) := by decide +kernel
theorem dX8_fetches_15 : decode cX8_fetches 15 = .ok (.iload_n 2, 1) := by decide +kernel
theorem dX8_fetches_16 : decode cX8_fetches 16 = .ok (.iload_n 3, 1) := by decide +kernel
theorem dX8_fetches_17 : decode cX8_fetches 17 = .ok (.invokevirtual 72, 3) := by decide +kernel
theorem dX8_fetches_20 : decode cX8_fetches 20 = .ok (.iastore, 1) := by decide +kernel
theorem dX8_fetches_21 : decode cX8_fetches 21 = .ok (.iinc 3 1, 3) := by decide +kernel
theorem dX8_fetches_24 : decode cX8_fetches 24 = .ok (.goto (-22), 3) := by decide +kernel
theorem dX8_fetches_27 : decode cX8_fetches 27 = .ok (.return_, 1) := by decide +kernel
theorem dX8_laysCut_0 : decode cX8_laysCut 0 = .ok (.iconst 0, 1) := by decide +kernel
theorem dX8_laysCut_1 : decode cX8_laysCut 1 = .ok (.istore_n 3, 1) := by decide +kernel
theorem dX8_laysCut_2 : decode cX8_laysCut 2 = .ok (.iload_n 3, 1) := by decide +kernel
theorem dX8_laysCut_3 : decode cX8_laysCut 3 = .ok (.aload_n 0, 1) := by decide +kernel
theorem dX8_laysCut_4 : decode cX8_laysCut 4 = .ok (.getfield 7, 3) := by decide +kernel
theorem dX8_laysCut_7 : decode cX8_laysCut 7 = .ok (.iconst 0, 1) := by decide +kernel
theorem dX8_laysCut_8 : decode cX8_laysCut 8 = .ok (.iaload, 1) := by decide +kernel
theorem dX8_laysCut_9 : decode cX8_laysCut 9 = .ok (.if_icmp .ge 34, 3) := by decide +kernel
theorem dX8_laysCut_12 : decode cX8_laysCut 12 = .ok (.aload_n 1, 1) := by decide +kernel
theorem dX8_laysCut_13 : decode cX8_laysCut 13 = .ok (.iload_n 3, 1) := by decide +kernel
theorem dX8_laysCut_14 : decode cX8_laysCut 14 = .ok (.iload_n 3, 1) := by decide +kernel
theorem dX8_laysCut_15 : decode cX8_laysCut 15 = .ok (.iload_n 2, 1) := by decide +kernel
theorem dX8_laysCut_16 : decode cX8_laysCut 16 = .ok (.isub, 1) := by decide +kernel
theorem dX8_laysCut_17 : decode cX8_laysCut 17 = .ok (.ifCond .ge 16, 3) := by decide +kernel
theorem dX8_laysCut_20 : decode cX8_laysCut 20 = .ok (.iload_n 3, 1) := by decide +kernel
theorem dX8_laysCut_21 : decode cX8_laysCut 21 = .ok (.iload_n 2, 1) := by decide +kernel
theorem dX8_laysCut_22 : decode cX8_laysCut 22 = .ok (.isub, 1) := by decide +kernel
theorem dX8_laysCut_23 : decode cX8_laysCut 23 = .ok (.aload_n 0, 1) := by decide +kernel
theorem dX8_laysCut_24 : decode cX8_laysCut 24 = .ok (.getfield 7, 3) := by decide +kernel
theorem dX8_laysCut_27 : decode cX8_laysCut 27 = .ok (.iconst 0, 1) := by decide +kernel
theorem dX8_laysCut_28 : decode cX8_laysCut 28 = .ok (.iaload, 1) := by decide +kernel
theorem dX8_laysCut_29 : decode cX8_laysCut 29 = .ok (.iadd, 1) := by decide +kernel
theorem dX8_laysCut_30 : decode cX8_laysCut 30 = .ok (.goto 6, 3) := by decide +kernel
theorem dX8_laysCut_33 : decode cX8_laysCut 33 = .ok (.iload_n 3, 1) := by decide +kernel
theorem dX8_laysCut_34 : decode cX8_laysCut 34 = .ok (.iload_n 2, 1) := by decide +kernel
theorem dX8_laysCut_35 : decode cX8_laysCut 35 = .ok (.isub, 1) := by decide +kernel
theorem dX8_laysCut_36 : decode cX8_laysCut 36 = .ok (.iastore, 1) := by decide +kernel
theorem dX8_laysCut_37 : decode cX8_laysCut 37 = .ok (.iinc 3 1, 3) := by decide +kernel
theorem dX8_laysCut_40 : decode cX8_laysCut 40 = .ok (.goto (-38), 3) := by decide +kernel
theorem dX8_laysCut_43 : decode cX8_laysCut 43 = .ok (.return_, 1) := by decide +kernel
theorem dX8_laysRiffle_0 : decode cX8_laysRiffle 0 = .ok (.iload_n 2, 1) := by decide +kernel
theorem dX8_laysRiffle_1 : decode cX8_laysRiffle 1 = .ok (.ifCond .eq 14, 3) := by decide +kernel
theorem dX8_laysRiffle_4 : decode cX8_laysRiffle 4 = .ok (.aload_n 0, 1) := by decide +kernel
theorem dX8_laysRiffle_5 : decode cX8_laysRiffle 5 = .ok (.getfield 7, 3) := by decide +kernel
theorem dX8_laysRiffle_8 : decode cX8_laysRiffle 8 = .ok (.iconst 0, 1) := by decide +kernel
theorem dX8_laysRiffle_9 : decode cX8_laysRiffle 9 = .ok (.iaload, 1) := by decide +kernel
theorem dX8_laysRiffle_10 : decode cX8_laysRiffle 10 = .ok (.iconst 2, 1) := by decide +kernel
theorem dX8_laysRiffle_11 : decode cX8_laysRiffle 11 = .ok (.idiv, 1) := by decide +kernel
theorem dX8_laysRiffle_12 : decode cX8_laysRiffle 12 = .ok (.goto 13, 3) := by decide +kernel
theorem dX8_laysRiffle_15 : decode cX8_laysRiffle 15 = .ok (.aload_n 0, 1) := by decide +kernel
theorem dX8_laysRiffle_16 : decode cX8_laysRiffle 16 = .ok (.getfield 7, 3) := by decide +kernel
theorem dX8_laysRiffle_19 : decode cX8_laysRiffle 19 = .ok (.iconst 0, 1) := by decide +kernel
theorem dX8_laysRiffle_20 : decode cX8_laysRiffle 20 = .ok (.iaload, 1) := by decide +kernel
theorem dX8_laysRiffle_21 : decode cX8_laysRiffle 21 = .ok (.iconst 1, 1) := by decide +kernel
theorem dX8_laysRiffle_22 : decode cX8_laysRiffle 22 = .ok (.iadd, 1) := by decide +kernel
theorem dX8_laysRiffle_23 : decode cX8_laysRiffle 23 = .ok (.iconst 2, 1) := by decide +kernel
theorem dX8_laysRiffle_24 : decode cX8_laysRiffle 24 = .ok (.idiv, 1) := by decide +kernel
theorem dX8_laysRiffle_25 : decode cX8_laysRiffle 25 = .ok (.istore_n 3, 1) := by decide +kernel
theorem dX8_laysRiffle_26 : decode cX8_laysRiffle 26 = .ok (.iload_n 2, 1) := by decide +kernel
theorem dX8_laysRiffle_27 : decode cX8_laysRiffle 27 = .ok (.ifCond .eq 7, 3) := by decide +kernel
theorem dX8_laysRiffle_30 : decode cX8_laysRiffle 30 = .ok (.iconst 1, 1) := by decide +kernel
theorem dX8_laysRiffle_31 : decode cX8_laysRiffle 31 = .ok (.goto 4, 3) := by decide +kernel
theorem dX8_laysRiffle_34 : decode cX8_laysRiffle 34 = .ok (.iconst 0, 1) := by decide +kernel
theorem dX8_laysRiffle_35 : decode cX8_laysRiffle 35 = .ok (.istore 4, 2) := by decide +kernel
theorem dX8_laysRiffle_37 : decode cX8_laysRiffle 37 = .ok (.iconst 0, 1) := by decide +kernel
theorem dX8_laysRiffle_38 : decode cX8_laysRiffle 38 = .ok (.istore 5, 2) := by decide +kernel
theorem dX8_laysRiffle_40 : decode cX8_laysRiffle 40 = .ok (.iload 5, 2) := by decide +kernel
theorem dX8_laysRiffle_42 : decode cX8_laysRiffle 42 = .ok (.aload_n 0, 1) := by decide +kernel
theorem dX8_laysRiffle_43 : decode cX8_laysRiffle 43 = .ok (.getfield 7, 3) := by decide +kernel
theorem dX8_laysRiffle_46 : decode cX8_laysRiffle 46 = .ok (.iconst 0, 1) := by decide +kernel
theorem dX8_laysRiffle_47 : decode cX8_laysRiffle 47 = .ok (.iaload, 1) := by decide +kernel
theorem dX8_laysRiffle_48 : decode cX8_laysRiffle 48 = .ok (.if_icmp .ge 40, 3) := by decide +kernel
theorem dX8_laysRiffle_51 : decode cX8_laysRiffle 51 = .ok (.aload_n 1, 1) := by decide +kernel
theorem dX8_laysRiffle_52 : decode cX8_laysRiffle 52 = .ok (.iload 5, 2) := by decide +kernel
theorem dX8_laysRiffle_54 : decode cX8_laysRiffle 54 = .ok (.iload 5, 2) := by decide +kernel
theorem dX8_laysRiffle_56 : decode cX8_laysRiffle 56 = .ok (.iload_n 3, 1) := by decide +kernel
theorem dX8_laysRiffle_57 : decode cX8_laysRiffle 57 = .ok (.if_icmp .ge 13, 3) := by decide +kernel
theorem dX8_laysRiffle_60 : decode cX8_laysRiffle 60 = .ok (.iconst 2, 1) := by decide +kernel
theorem dX8_laysRiffle_61 : decode cX8_laysRiffle 61 = .ok (.iload 5, 2) := by decide +kernel
theorem dX8_laysRiffle_63 : decode cX8_laysRiffle 63 = .ok (.imul, 1) := by decide +kernel
theorem dX8_laysRiffle_64 : decode cX8_laysRiffle 64 = .ok (.iload 4, 2) := by decide +kernel
theorem dX8_laysRiffle_66 : decode cX8_laysRiffle 66 = .ok (.iadd, 1) := by decide +kernel
theorem dX8_laysRiffle_67 : decode cX8_laysRiffle 67 = .ok (.goto 14, 3) := by decide +kernel
theorem dX8_laysRiffle_70 : decode cX8_laysRiffle 70 = .ok (.iconst 2, 1) := by decide +kernel
theorem dX8_laysRiffle_71 : decode cX8_laysRiffle 71 = .ok (.iload 5, 2) := by decide +kernel
theorem dX8_laysRiffle_73 : decode cX8_laysRiffle 73 = .ok (.iload_n 3, 1) := by decide +kernel
theorem dX8_laysRiffle_74 : decode cX8_laysRiffle 74 = .ok (.isub, 1) := by decide +kernel
theorem dX8_laysRiffle_75 : decode cX8_laysRiffle 75 = .ok (.imul, 1) := by decide +kernel
theorem dX8_laysRiffle_76 : decode cX8_laysRiffle 76 = .ok (.iconst 1, 1) := by decide +kernel
theorem dX8_laysRiffle_77 : decode cX8_laysRiffle 77 = .ok (.iadd, 1) := by decide +kernel
theorem dX8_laysRiffle_78 : decode cX8_laysRiffle 78 = .ok (.iload 4, 2) := by decide +kernel
theorem dX8_laysRiffle_80 : decode cX8_laysRiffle 80 = .ok (.isub, 1) := by decide +kernel
theorem dX8_laysRiffle_81 : decode cX8_laysRiffle 81 = .ok (.iastore, 1) := by decide +kernel
theorem dX8_laysRiffle_82 : decode cX8_laysRiffle 82 = .ok (.iinc 5 1, 3) := by decide +kernel
theorem dX8_laysRiffle_85 : decode cX8_laysRiffle 85 = .ok (.goto (-45), 3) := by decide +kernel
theorem dX8_laysRiffle_88 : decode cX8_laysRiffle 88 = .ok (.return_, 1) := by decide +kernel
theorem dX8_laysTurn_0 : decode cX8_laysTurn 0 = .ok (.iconst 0, 1) := by decide +kernel
theorem dX8_laysTurn_1 : decode cX8_laysTurn 1 = .ok (.istore_n 2, 1) := by decide +kernel
theorem dX8_laysTurn_2 : decode cX8_laysTurn 2 = .ok (.iload_n 2, 1) := by decide +kernel
theorem dX8_laysTurn_3 : decode cX8_laysTurn 3 = .ok (.aload_n 0, 1) := by decide +kernel
theorem dX8_laysTurn_4 : decode cX8_laysTurn 4 = .ok (.getfield 7, 3) := by decide +kernel
theorem dX8_laysTurn_7 : decode cX8_laysTurn 7 = .ok (.iconst 0, 1) := by decide +kernel
theorem dX8_laysTurn_8 : decode cX8_laysTurn 8 = .ok (.iaload, 1) := by decide +kernel
theorem dX8_laysTurn_9 : decode cX8_laysTurn 9 = .ok (.if_icmp .ge 22, 3) := by decide +kernel
theorem dX8_laysTurn_12 : decode cX8_laysTurn 12 = .ok (.aload_n 1, 1) := by decide +kernel
theorem dX8_laysTurn_13 : decode cX8_laysTurn 13 = .ok (.iload_n 2, 1) := by decide +kernel
theorem dX8_laysTurn_14 : decode cX8_laysTurn 14 = .ok (.aload_n 0, 1) := by decide +kernel
theorem dX8_laysTurn_15 : decode cX8_laysTurn 15 = .ok (.getfield 7, 3) := by decide +kernel
theorem dX8_laysTurn_18 : decode cX8_laysTurn 18 = .ok (.iconst 0, 1) := by decide +kernel
theorem dX8_laysTurn_19 : decode cX8_laysTurn 19 = .ok (.iaload, 1) := by decide +kernel
theorem dX8_laysTurn_20 : decode cX8_laysTurn 20 = .ok (.iconst 1, 1) := by decide +kernel
theorem dX8_laysTurn_21 : decode cX8_laysTurn 21 = .ok (.isub, 1) := by decide +kernel
theorem dX8_laysTurn_22 : decode cX8_laysTurn 22 = .ok (.iload_n 2, 1) := by decide +kernel
theorem dX8_laysTurn_23 : decode cX8_laysTurn 23 = .ok (.isub, 1) := by decide +kernel
theorem dX8_laysTurn_24 : decode cX8_laysTurn 24 = .ok (.iastore, 1) := by decide +kernel
theorem dX8_laysTurn_25 : decode cX8_laysTurn 25 = .ok (.iinc 2 1, 3) := by decide +kernel
theorem dX8_laysTurn_28 : decode cX8_laysTurn 28 = .ok (.goto (-26), 3) := by decide +kernel
theorem dX8_laysTurn_31 : decode cX8_laysTurn 31 = .ok (.return_, 1) := by decide +kernel
theorem dX8_laysInverse_0 : decode cX8_laysInverse 0 = .ok (.iconst 0, 1) := by decide +kernel
theorem dX8_laysInverse_1 : decode cX8_laysInverse 1 = .ok (.istore_n 3, 1) := by decide +kernel
theorem dX8_laysInverse_2 : decode cX8_laysInverse 2 = .ok (.iload_n 3, 1) := by decide +kernel
theorem dX8_laysInverse_3 : decode cX8_laysInverse 3 = .ok (.aload_n 0, 1) := by decide +kernel
theorem dX8_laysInverse_4 : decode cX8_laysInverse 4 = .ok (.getfield 7, 3) := by decide +kernel
theorem dX8_laysInverse_7 : decode cX8_laysInverse 7 = .ok (.iconst 0, 1) := by decide +kernel
theorem dX8_laysInverse_8 : decode cX8_laysInverse 8 = .ok (.iaload, 1) := by decide +kernel
theorem dX8_laysInverse_9 : decode cX8_laysInverse 9 = .ok (.if_icmp .ge 15, 3) := by decide +kernel
theorem dX8_laysInverse_12 : decode cX8_laysInverse 12 = .ok (.aload_n 1, 1) := by decide +kernel
theorem dX8_laysInverse_13 : decode cX8_laysInverse 13 = .ok (.aload_n 2, 1) := by decide +kernel
theorem dX8_laysInverse_14 : decode cX8_laysInverse 14 = .ok (.iload_n 3, 1) := by decide +kernel
theorem dX8_laysInverse_15 : decode cX8_laysInverse 15 = .ok (.iaload, 1) := by decide +kernel
theorem dX8_laysInverse_16 : decode cX8_laysInverse 16 = .ok (.iload_n 3, 1) := by decide +kernel
theorem dX8_laysInverse_17 : decode cX8_laysInverse 17 = .ok (.iastore, 1) := by decide +kernel
theorem dX8_laysInverse_18 : decode cX8_laysInverse 18 = .ok (.iinc 3 1, 3) := by decide +kernel
theorem dX8_laysInverse_21 : decode cX8_laysInverse 21 = .ok (.goto (-19), 3) := by decide +kernel
theorem dX8_laysInverse_24 : decode cX8_laysInverse 24 = .ok (.return_, 1) := by decide +kernel
theorem dX8_laysProduct_0 : decode cX8_laysProduct 0 = .ok (.iconst 0, 1) := by decide +kernel
theorem dX8_laysProduct_1 : decode cX8_laysProduct 1 = .ok (.istore 4, 2) := by decide +kernel
theorem dX8_laysProduct_3 : decode cX8_laysProduct 3 = .ok (.iload 4, 2) := by decide +kernel
theorem dX8_laysProduct_5 : decode cX8_laysProduct 5 = .ok (.aload_n 0, 1) := by decide +kernel
theorem dX8_laysProduct_6 : decode cX8_laysProduct 6 = .ok (.getfield 7, 3) := by decide +kernel
theorem dX8_laysProduct_9 : decode cX8_laysProduct 9 = .ok (.iconst 0, 1) := by decide +kernel
theorem dX8_laysProduct_10 : decode cX8_laysProduct 10 = .ok (.iaload, 1) := by decide +kernel
theorem dX8_laysProduct_11 : decode cX8_laysProduct 11 = .ok (.if_icmp .ge 19, 3) := by decide +kernel
theorem dX8_laysProduct_14 : decode cX8_laysProduct 14 = .ok (.aload_n 1, 1) := by decide +kernel
theorem dX8_laysProduct_15 : decode cX8_laysProduct 15 = .ok (.iload 4, 2) := by decide +kernel
theorem dX8_laysProduct_17 : decode cX8_laysProduct 17 = .ok (.aload_n 3, 1) := by decide +kernel
theorem dX8_laysProduct_18 : decode cX8_laysProduct 18 = .ok (.aload_n 2, 1) := by decide +kernel
theorem dX8_laysProduct_19 : decode cX8_laysProduct 19 = .ok (.iload 4, 2) := by decide +kernel
theorem dX8_laysProduct_21 : decode cX8_laysProduct 21 = .ok (.iaload, 1) := by decide +kernel
theorem dX8_laysProduct_22 : decode cX8_laysProduct 22 = .ok (.iaload, 1) := by decide +kernel
theorem dX8_laysProduct_23 : decode cX8_laysProduct 23 = .ok (.iastore, 1) := by decide +kernel
theorem dX8_laysProduct_24 : decode cX8_laysProduct 24 = .ok (.iinc 4 1, 3) := by decide +kernel
theorem dX8_laysProduct_27 : decode cX8_laysProduct 27 = .ok (.goto (-24), 3) := by decide +kernel
theorem dX8_laysProduct_30 : decode cX8_laysProduct 30 = .ok (.return_, 1) := by decide +kernel
theorem dX8_areAlike_0 : decode cX8_areAlike 0 = .ok (.iconst 1, 1) := by decide +kernel
theorem dX8_areAlike_1 : decode cX8_areAlike 1 = .ok (.istore_n 3, 1) := by decide +kernel
theorem dX8_areAlike_2 : decode cX8_areAlike 2 = .ok (.iconst 0, 1) := by decide +kernel
theorem dX8_areAlike_3 : decode cX8_areAlike 3 = .ok (.istore 4, 2) := by decide +kernel
theorem dX8_areAlike_5 : decode cX8_areAlike 5 = .ok (.iload 4, 2) := by decide +kernel
theorem dX8_areAlike_7 : decode cX8_areAlike 7 = .ok (.aload_n 0, 1) := by decide +kernel
theorem dX8_areAlike_8 : decode cX8_areAlike 8 = .ok (.getfield 7, 3) := by decide +kernel
theorem dX8_areAlike_11 : decode cX8_areAlike 11 = .ok (.iconst 0, 1) := by decide +kernel
theorem dX8_areAlike_12 : decode cX8_areAlike 12 = .ok (.iaload, 1) := by decide +kernel
theorem dX8_areAlike_13 : decode cX8_areAlike 13 = .ok (.if_icmp .ge 30, 3) := by decide +kernel
theorem dX8_areAlike_16 : decode cX8_areAlike 16 = .ok (.iload_n 3, 1) := by decide +kernel
theorem dX8_areAlike_17 : decode cX8_areAlike 17 = .ok (.ifCond .eq 18, 3) := by decide +kernel
theorem dX8_areAlike_20 : decode cX8_areAlike 20 = .ok (.aload_n 1, 1) := by decide +kernel
theorem dX8_areAlike_21 : decode cX8_areAlike 21 = .ok (.iload 4, 2) := by decide +kernel
theorem dX8_areAlike_23 : decode cX8_areAlike 23 = .ok (.iaload, 1) := by decide +kernel
theorem dX8_areAlike_24 : decode cX8_areAlike 24 = .ok (.aload_n 2, 1) := by decide +kernel
theorem dX8_areAlike_25 : decode cX8_areAlike 25 = .ok (.iload 4, 2) := by decide +kernel
theorem dX8_areAlike_27 : decode cX8_areAlike 27 = .ok (.iaload, 1) := by decide +kernel
theorem dX8_areAlike_28 : decode cX8_areAlike 28 = .ok (.if_icmp .ne 7, 3) := by decide +kernel
theorem dX8_areAlike_31 : decode cX8_areAlike 31 = .ok (.iconst 1, 1) := by decide +kernel
theorem dX8_areAlike_32 : decode cX8_areAlike 32 = .ok (.goto 4, 3) := by decide +kernel
theorem dX8_areAlike_35 : decode cX8_areAlike 35 = .ok (.iconst 0, 1) := by decide +kernel
theorem dX8_areAlike_36 : decode cX8_areAlike 36 = .ok (.istore_n 3, 1) := by decide +kernel
theorem dX8_areAlike_37 : decode cX8_areAlike 37 = .ok (.iinc 4 1, 3) := by decide +kernel
theorem dX8_areAlike_40 : decode cX8_areAlike 40 = .ok (.goto (-35), 3) := by decide +kernel
theorem dX8_areAlike_43 : decode cX8_areAlike 43 = .ok (.iload_n 3, 1) := by decide +kernel
theorem dX8_areAlike_44 : decode cX8_areAlike 44 = .ok (.ireturn, 1) := by decide +kernel
theorem dX8_doCommute_0 : decode cX8_doCommute 0 = .ok (.iconst 1, 1) := by decide +kernel
theorem dX8_doCommute_1 : decode cX8_doCommute 1 = .ok (.istore_n 3, 1) := by decide +kernel
theorem dX8_doCommute_2 : decode cX8_doCommute 2 = .ok (.iconst 0, 1) := by decide +kernel
theorem dX8_doCommute_3 : decode cX8_doCommute 3 = .ok (.istore 4, 2) := by decide +kernel
theorem dX8_doCommute_5 : decode cX8_doCommute 5 = .ok (.iload 4, 2) := by decide +kernel
theorem dX8_doCommute_7 : decode cX8_doCommute 7 = .ok (.aload_n 0, 1) := by decide +kernel
theorem dX8_doCommute_8 : decode cX8_doCommute 8 = .ok (.getfield 7, 3) := by decide +kernel
theorem dX8_doCommute_11 : decode cX8_doCommute 11 = .ok (.iconst 0, 1) := by decide +kernel
theorem dX8_doCommute_12 : decode cX8_doCommute 12 = .ok (.iaload, 1) := by decide +kernel
theorem dX8_doCommute_13 : decode cX8_doCommute 13 = .ok (.if_icmp .ge 34, 3) := by decide +kernel
theorem dX8_doCommute_16 : decode cX8_doCommute 16 = .ok (.iload_n 3, 1) := by decide +kernel
theorem dX8_doCommute_17 : decode cX8_doCommute 17 = .ok (.ifCond .eq 22, 3) := by decide +kernel
theorem dX8_doCommute_20 : decode cX8_doCommute 20 = .ok (.aload_n 1, 1) := by decide +kernel
theorem dX8_doCommute_21 : decode cX8_doCommute 21 = .ok (.aload_n 2, 1) := by decide +kernel
theorem dX8_doCommute_22 : decode cX8_doCommute 22 = .ok (.iload 4, 2) := by decide +kernel
theorem dX8_doCommute_24 : decode cX8_doCommute 24 = .ok (.iaload, 1) := by decide +kernel
theorem dX8_doCommute_25 : decode cX8_doCommute 25 = .ok (.iaload, 1) := by decide +kernel
theorem dX8_doCommute_26 : decode cX8_doCommute 26 = .ok (.aload_n 2, 1) := by decide +kernel
theorem dX8_doCommute_27 : decode cX8_doCommute 27 = .ok (.aload_n 1, 1) := by decide +kernel
theorem dX8_doCommute_28 : decode cX8_doCommute 28 = .ok (.iload 4, 2) := by decide +kernel
theorem dX8_doCommute_30 : decode cX8_doCommute 30 = .ok (.iaload, 1) := by decide +kernel
theorem dX8_doCommute_31 : decode cX8_doCommute 31 = .ok (.iaload, 1) := by decide +kernel
theorem dX8_doCommute_32 : decode cX8_doCommute 32 = .ok (.if_icmp .ne 7, 3) := by decide +kernel
theorem dX8_doCommute_35 : decode cX8_doCommute 35 = .ok (.iconst 1, 1) := by decide +kernel
theorem dX8_doCommute_36 : decode cX8_doCommute 36 = .ok (.goto 4, 3) := by decide +kernel
theorem dX8_doCommute_39 : decode cX8_doCommute 39 = .ok (.iconst 0, 1) := by decide +kernel
theorem dX8_doCommute_40 : decode cX8_doCommute 40 = .ok (.istore_n 3, 1) := by decide +kernel
theorem dX8_doCommute_41 : decode cX8_doCommute 41 = .ok (.iinc 4 1, 3) := by decide +kernel
theorem dX8_doCommute_44 : decode cX8_doCommute 44 = .ok (.goto (-39), 3) := by decide +kernel
theorem dX8_doCommute_47 : decode cX8_doCommute 47 = .ok (.iload_n 3, 1) := by decide +kernel
theorem dX8_doCommute_48 : decode cX8_doCommute 48 = .ok (.ireturn, 1) := by decide +kernel
theorem dX8_powered_0 : decode cX8_powered 0 = .ok (.iload_n 3, 1) := by decide +kernel
theorem dX8_powered_1 : decode cX8_powered 1 = .ok (.istore 4, 2) := by decide +kernel
theorem dX8_powered_3 : decode cX8_powered 3 = .ok (.iconst 0, 1) := by decide +kernel
theorem dX8_powered_4 : decode cX8_powered 4 = .ok (.istore 5, 2) := by decide +kernel
theorem dX8_powered_6 : decode cX8_powered 6 = .ok (.iload 5, 2) := by decide +kernel
theorem dX8_powered_8 : decode cX8_powered 8 = .ok (.iload_n 2, 1) := by decide +kernel
theorem dX8_powered_9 : decode cX8_powered 9 = .ok (.if_icmp .ge 15, 3) := by decide +kernel
theorem dX8_powered_12 : decode cX8_powered 12 = .ok (.aload_n 1, 1) := by decide +kernel
theorem dX8_powered_13 : decode cX8_powered 13 = .ok (.iload 4, 2) := by decide +kernel
theorem dX8_powered_15 : decode cX8_powered 15 = .ok (.iaload, 1) := by decide +kernel
theorem dX8_powered_16 : decode cX8_powered 16 = .ok (.istore 4, 2) := by decide +kernel
theorem dX8_powered_18 : decode cX8_powered 18 = .ok (.iinc 5 1, 3) := by decide +kernel
theorem dX8_powered_21 : decode cX8_powered 21 = .ok (.goto (-15), 3) := by decide +kernel
theorem dX8_powered_24 : decode cX8_powered 24 = .ok (.iconst 0, 1) := by decide +kernel
theorem dX8_powered_25 : decode cX8_powered 25 = .ok (.istore 5, 2) := by decide +kernel
theorem dX8_powered_27 : decode cX8_powered 27 = .ok (.iload 5, 2) := by decide +kernel
theorem dX8_powered_29 : decode cX8_powered 29 = .ok (.iload_n 2, 1) := by decide +kernel
theorem dX8_powered_30 : decode cX8_powered 30 = .ok (.if_icmp .le 31, 3) := by decide +kernel
theorem dX8_powered_33 : decode cX8_powered 33 = .ok (.iconst 0, 1) := by decide +kernel
theorem dX8_powered_34 : decode cX8_powered 34 = .ok (.istore 6, 2) := by decide +kernel
theorem dX8_powered_36 : decode cX8_powered 36 = .ok (.aload_n 1, 1) := by decide +kernel
theorem dX8_powered_37 : decode cX8_powered 37 = .ok (.iload 6, 2) := by decide +kernel
theorem dX8_powered_39 : decode cX8_powered 39 = .ok (.iaload, 1) := by decide +kernel
theorem dX8_powered_40 : decode cX8_powered 40 = .ok (.iload 4, 2) := by decide +kernel
theorem dX8_powered_42 : decode cX8_powered 42 = .ok (.if_icmp .eq 9, 3) := by decide +kernel
theorem dX8_powered_45 : decode cX8_powered 45 = .ok (.iinc 6 1, 3) := by decide +kernel
theorem dX8_powered_48 : decode cX8_powered 48 = .ok (.goto (-12), 3) := by decide +kernel
theorem dX8_powered_51 : decode cX8_powered 51 = .ok (.iload 6, 2) := by decide +kernel
theorem dX8_powered_53 : decode cX8_powered 53 = .ok (.istore 4, 2) := by decide +kernel
theorem dX8_powered_55 : decode cX8_powered 55 = .ok (.iinc 5 (-1), 3) := by decide +kernel
theorem dX8_powered_58 : decode cX8_powered 58 = .ok (.goto (-31), 3) := by decide +kernel
theorem dX8_powered_61 : decode cX8_powered 61 = .ok (.iload 4, 2) := by decide +kernel
theorem dX8_powered_63 : decode cX8_powered 63 = .ok (.ireturn, 1) := by decide +kernel
theorem dX8_cycles_0 : decode cX8_cycles 0 = .ok (.iconst 0, 1) := by decide +kernel
theorem dX8_cycles_1 : decode cX8_cycles 1 = .ok (.istore_n 2, 1) := by decide +kernel
theorem dX8_cycles_2 : decode cX8_cycles 2 = .ok (.iconst 0, 1) := by decide +kernel
theorem dX8_cycles_3 : decode cX8_cycles 3 = .ok (.istore_n 3, 1) := by decide +kernel
theorem dX8_cycles_4 : decode cX8_cycles 4 = .ok (.iload_n 3, 1) := by decide +kernel
theorem dX8_cycles_5 : decode cX8_cycles 5 = .ok (.bipush 17, 2) := by decide +kernel
theorem dX8_cycles_7 : decode cX8_cycles 7 = .ok (.if_icmp .ge 16, 3) := by decide +kernel
theorem dX8_cycles_10 : decode cX8_cycles 10 = .ok (.aload_n 0, 1) := by decide +kernel
theorem dX8_cycles_11 : decode cX8_cycles 11 = .ok (.getfield 50, 3) := by decide +kernel
theorem dX8_cycles_14 : decode cX8_cycles 14 = .ok (.iload_n 3, 1) := by decide +kernel
theorem dX8_cycles_15 : decode cX8_cycles 15 = .ok (.iconst 0, 1) := by decide +kernel
theorem dX8_cycles_16 : decode cX8_cycles 16 = .ok (.iastore, 1) := by decide +kernel
theorem dX8_cycles_17 : decode cX8_cycles 17 = .ok (.iinc 3 1, 3) := by decide +kernel
theorem dX8_cycles_20 : decode cX8_cycles 20 = .ok (.goto (-16), 3) := by decide +kernel
theorem dX8_cycles_23 : decode cX8_cycles 23 = .ok (.iconst 0, 1) := by decide +kernel
theorem dX8_cycles_24 : decode cX8_cycles 24 = .ok (.istore_n 3, 1) := by decide +kernel
theorem dX8_cycles_25 : decode cX8_cycles 25 = .ok (.iload_n 3, 1) := by decide +kernel
theorem dX8_cycles_26 : decode cX8_cycles 26 = .ok (.bipush 16, 2) := by decide +kernel
theorem dX8_cycles_28 : decode cX8_cycles 28 = .ok (.if_icmp .ge 16, 3) := by decide +kernel
theorem dX8_cycles_31 : decode cX8_cycles 31 = .ok (.aload_n 0, 1) := by decide +kernel
theorem dX8_cycles_32 : decode cX8_cycles 32 = .ok (.getfield 47, 3) := by decide +kernel
theorem dX8_cycles_35 : decode cX8_cycles 35 = .ok (.iload_n 3, 1) := by decide +kernel
theorem dX8_cycles_36 : decode cX8_cycles 36 = .ok (.iconst 0, 1) := by decide +kernel
theorem dX8_cycles_37 : decode cX8_cycles 37 = .ok (.bastore, 1) := by decide +kernel
theorem dX8_cycles_38 : decode cX8_cycles 38 = .ok (.iinc 3 1, 3) := by decide +kernel
theorem dX8_cycles_41 : decode cX8_cycles 41 = .ok (.goto (-16), 3) := by decide +kernel
theorem dX8_cycles_44 : decode cX8_cycles 44 = .ok (.iconst 0, 1) := by decide +kernel
theorem dX8_cycles_45 : decode cX8_cycles 45 = .ok (.istore_n 3, 1) := by decide +kernel
theorem dX8_cycles_46 : decode cX8_cycles 46 = .ok (.iload_n 3, 1) := by decide +kernel
theorem dX8_cycles_47 : decode cX8_cycles 47 = .ok (.aload_n 0, 1) := by decide +kernel
theorem dX8_cycles_48 : decode cX8_cycles 48 = .ok (.getfield 7, 3) := by decide +kernel
theorem dX8_cycles_51 : decode cX8_cycles 51 = .ok (.iconst 0, 1) := by decide +kernel
theorem dX8_cycles_52 : decode cX8_cycles 52 = .ok (.iaload, 1) := by decide +kernel
theorem dX8_cycles_53 : decode cX8_cycles 53 = .ok (.if_icmp .ge 78, 3) := by decide +kernel
theorem dX8_cycles_56 : decode cX8_cycles 56 = .ok (.iconst 0, 1) := by decide +kernel
theorem dX8_cycles_57 : decode cX8_cycles 57 = .ok (.istore 4, 2) := by decide +kernel
theorem dX8_cycles_59 : decode cX8_cycles 59 = .ok (.iload_n 3, 1) := by decide +kernel
theorem dX8_cycles_60 : decode cX8_cycles 60 = .ok (.istore 5, 2) := by decide +kernel
theorem dX8_cycles_62 : decode cX8_cycles 62 = .ok (.aload_n 0, 1) := by decide +kernel
theorem dX8_cycles_63 : decode cX8_cycles 63 = .ok (.getfield 47, 3) := by decide +kernel
theorem dX8_cycles_66 : decode cX8_cycles 66 = .ok (.iload 5, 2) := by decide +kernel
theorem dX8_cycles_68 : decode cX8_cycles 68 = .ok (.baload, 1) := by decide +kernel
theorem dX8_cycles_69 : decode cX8_cycles 69 = .ok (.ifCond .ne 23, 3) := by decide +kernel
theorem dX8_cycles_72 : decode cX8_cycles 72 = .ok (.aload_n 0, 1) := by decide +kernel
theorem dX8_cycles_73 : decode cX8_cycles 73 = .ok (.getfield 47, 3) := by decide +kernel
theorem dX8_cycles_76 : decode cX8_cycles 76 = .ok (.iload 5, 2) := by decide +kernel
theorem dX8_cycles_78 : decode cX8_cycles 78 = .ok (.iconst 1, 1) := by decide +kernel
theorem dX8_cycles_79 : decode cX8_cycles 79 = .ok (.bastore, 1) := by decide +kernel
theorem dX8_cycles_80 : decode cX8_cycles 80 = .ok (.iinc 4 1, 3) := by decide +kernel
theorem dX8_cycles_83 : decode cX8_cycles 83 = .ok (.aload_n 1, 1) := by decide +kernel
theorem dX8_cycles_84 : decode cX8_cycles 84 = .ok (.iload 5, 2) := by decide +kernel
theorem dX8_cycles_86 : decode cX8_cycles 86 = .ok (.iaload, 1) := by decide +kernel
theorem dX8_cycles_87 : decode cX8_cycles 87 = .ok (.istore 5, 2) := by decide +kernel
theorem dX8_cycles_89 : decode cX8_cycles 89 = .ok (.goto (-27), 3) := by decide +kernel
theorem dX8_cycles_92 : decode cX8_cycles 92 = .ok (.aload_n 0, 1) := by decide +kernel
theorem dX8_cycles_93 : decode cX8_cycles 93 = .ok (.getfield 50, 3) := by decide +kernel
theorem dX8_cycles_96 : decode cX8_cycles 96 = .ok (.iload 4, 2) := by decide +kernel
theorem dX8_cycles_98 : decode cX8_cycles 98 = .ok (.dup2, 1) := by decide +kernel
theorem dX8_cycles_99 : decode cX8_cycles 99 = .ok (.iaload, 1) := by decide +kernel
theorem dX8_cycles_100 : decode cX8_cycles 100 = .ok (.iload 4, 2) := by decide +kernel
theorem dX8_cycles_102 : decode cX8_cycles 102 = .ok (.ifCond .le 7, 3) := by decide +kernel
theorem dX8_cycles_105 : decode cX8_cycles 105 = .ok (.iconst 1, 1) := by decide +kernel
theorem dX8_cycles_106 : decode cX8_cycles 106 = .ok (.goto 4, 3) := by decide +kernel
theorem dX8_cycles_109 : decode cX8_cycles 109 = .ok (.iconst 0, 1) := by decide +kernel
theorem dX8_cycles_110 : decode cX8_cycles 110 = .ok (.iadd, 1) := by decide +kernel
theorem dX8_cycles_111 : decode cX8_cycles 111 = .ok (.iastore, 1) := by decide +kernel
theorem dX8_cycles_112 : decode cX8_cycles 112 = .ok (.iload_n 2, 1) := by decide +kernel
theorem dX8_cycles_113 : decode cX8_cycles 113 = .ok (.iload 4, 2) := by decide +kernel
theorem dX8_cycles_115 : decode cX8_cycles 115 = .ok (.ifCond .le 7, 3) := by decide +kernel
theorem dX8_cycles_118 : decode cX8_cycles 118 = .ok (.iconst 1, 1) := by decide +kernel
theorem dX8_cycles_119 : decode cX8_cycles 119 = .ok (.goto 4, 3) := by decide +kernel
theorem dX8_cycles_122 : decode cX8_cycles 122 = .ok (.iconst 0, 1) := by decide +kernel
theorem dX8_cycles_123 : decode cX8_cycles 123 = .ok (.iadd, 1) := by decide +kernel
theorem dX8_cycles_124 : decode cX8_cycles 124 = .ok (.istore_n 2, 1) := by decide +kernel
theorem dX8_cycles_125 : decode cX8_cycles 125 = .ok (.iinc 3 1, 3) := by decide +kernel
theorem dX8_cycles_128 : decode cX8_cycles 128 = .ok (.goto (-82), 3) := by decide +kernel
theorem dX8_cycles_131 : decode cX8_cycles 131 = .ok (.iload_n 2, 1) := by decide +kernel
theorem dX8_cycles_132 : decode cX8_cycles 132 = .ok (.ireturn, 1) := by decide +kernel
theorem dX8_common_0 : decode cX8_common 0 = .ok (.iload_n 0, 1) := by decide +kernel
theorem dX8_common_1 : decode cX8_common 1 = .ok (.istore_n 2, 1) := by decide +kernel
theorem dX8_common_2 : decode cX8_common 2 = .ok (.iload_n 1, 1) := by decide +kernel
theorem dX8_common_3 : decode cX8_common 3 = .ok (.istore_n 3, 1) := by decide +kernel
theorem dX8_common_4 : decode cX8_common 4 = .ok (.iload_n 3, 1) := by decide +kernel
theorem dX8_common_5 : decode cX8_common 5 = .ok (.ifCond .le 16, 3) := by decide +kernel
theorem dX8_common_8 : decode cX8_common 8 = .ok (.iload_n 2, 1) := by decide +kernel
theorem dX8_common_9 : decode cX8_common 9 = .ok (.iload_n 3, 1) := by decide +kernel
theorem dX8_common_10 : decode cX8_common 10 = .ok (.irem, 1) := by decide +kernel
theorem dX8_common_11 : decode cX8_common 11 = .ok (.istore 4, 2) := by decide +kernel
theorem dX8_common_13 : decode cX8_common 13 = .ok (.iload_n 3, 1) := by decide +kernel
theorem dX8_common_14 : decode cX8_common 14 = .ok (.istore_n 2, 1) := by decide +kernel
theorem dX8_common_15 : decode cX8_common 15 = .ok (.iload 4, 2) := by decide +kernel
theorem dX8_common_17 : decode cX8_common 17 = .ok (.istore_n 3, 1) := by decide +kernel
theorem dX8_common_18 : decode cX8_common 18 = .ok (.goto (-14), 3) := by decide +kernel
theorem dX8_common_21 : decode cX8_common 21 = .ok (.iload_n 2, 1) := by decide +kernel
theorem dX8_common_22 : decode cX8_common 22 = .ok (.ireturn, 1) := by decide +kernel
theorem dX8_order_0 : decode cX8_order 0 = .ok (.aload_n 0, 1) := by decide +kernel
theorem dX8_order_1 : decode cX8_order 1 = .ok (.aload_n 1, 1) := by decide +kernel
theorem dX8_order_2 : decode cX8_order 2 = .ok (.invokevirtual 76, 3) := by decide +kernel
theorem dX8_order_5 : decode cX8_order 5 = .ok (.pop, 1) := by decide +kernel
theorem dX8_order_6 : decode cX8_order 6 = .ok (.iconst 1, 1) := by decide +kernel
theorem dX8_order_7 : decode cX8_order 7 = .ok (.istore_n 2, 1) := by decide +kernel
theorem dX8_order_8 : decode cX8_order 8 = .ok (.iconst 1, 1) := by decide +kernel
theorem dX8_order_9 : decode cX8_order 9 = .ok (.istore_n 3, 1) := by decide +kernel
theorem dX8_order_10 : decode cX8_order 10 = .ok (.iload_n 3, 1) := by decide +kernel
theorem dX8_order_11 : decode cX8_order 11 = .ok (.bipush 17, 2) := by decide +kernel
theorem dX8_order_13 : decode cX8_order 13 = .ok (.if_icmp .ge 32, 3) := by decide +kernel
theorem dX8_order_16 : decode cX8_order 16 = .ok (.aload_n 0, 1) := by decide +kernel
theorem dX8_order_17 : decode cX8_order 17 = .ok (.getfield 50, 3) := by decide +kernel
theorem dX8_order_20 : decode cX8_order 20 = .ok (.iload_n 3, 1) := by decide +kernel
theorem dX8_order_21 : decode cX8_order 21 = .ok (.iaload, 1) := by decide +kernel
theorem dX8_order_22 : decode cX8_order 22 = .ok (.ifCond .ne 7, 3) := by decide +kernel
theorem dX8_order_25 : decode cX8_order 25 = .ok (.iload_n 2, 1) := by decide +kernel
theorem dX8_order_26 : decode cX8_order 26 = .ok (.goto 12, 3) := by decide +kernel
theorem dX8_order_29 : decode cX8_order 29 = .ok (.iload_n 2, 1) := by decide +kernel
theorem dX8_order_30 : decode cX8_order 30 = .ok (.iload_n 2, 1) := by decide +kernel
theorem dX8_order_31 : decode cX8_order 31 = .ok (.iload_n 3, 1) := by decide +kernel
theorem dX8_order_32 : decode cX8_order 32 = .ok (.invokestatic 80, 3) := by decide +kernel
theorem dX8_order_35 : decode cX8_order 35 = .ok (.idiv, 1) := by decide +kernel
theorem dX8_order_36 : decode cX8_order 36 = .ok (.iload_n 3, 1) := by decide +kernel
theorem dX8_order_37 : decode cX8_order 37 = .ok (.imul, 1) := by decide +kernel
theorem dX8_order_38 : decode cX8_order 38 = .ok (.istore_n 2, 1) := by decide +kernel
theorem dX8_order_39 : decode cX8_order 39 = .ok (.iinc 3 1, 3) := by decide +kernel
theorem dX8_order_42 : decode cX8_order 42 = .ok (.goto (-32), 3) := by decide +kernel
theorem dX8_order_45 : decode cX8_order 45 = .ok (.iload_n 2, 1) := by decide +kernel
theorem dX8_order_46 : decode cX8_order 46 = .ok (.ireturn, 1) := by decide +kernel
theorem dX8_longest_0 : decode cX8_longest 0 = .ok (.aload_n 0, 1) := by decide +kernel
theorem dX8_longest_1 : decode cX8_longest 1 = .ok (.aload_n 1, 1) := by decide +kernel
theorem dX8_longest_2 : decode cX8_longest 2 = .ok (.invokevirtual 76, 3) := by decide +kernel
theorem dX8_longest_5 : decode cX8_longest 5 = .ok (.pop, 1) := by decide +kernel
theorem dX8_longest_6 : decode cX8_longest 6 = .ok (.iconst 0, 1) := by decide +kernel
theorem dX8_longest_7 : decode cX8_longest 7 = .ok (.istore_n 2, 1) := by decide +kernel
theorem dX8_longest_8 : decode cX8_longest 8 = .ok (.iconst 1, 1) := by decide +kernel
theorem dX8_longest_9 : decode cX8_longest 9 = .ok (.istore_n 3, 1) := by decide +kernel
theorem dX8_longest_10 : decode cX8_longest 10 = .ok (.iload_n 3, 1) := by decide +kernel
theorem dX8_longest_11 : decode cX8_longest 11 = .ok (.bipush 17, 2) := by decide +kernel
theorem dX8_longest_13 : decode cX8_longest 13 = .ok (.if_icmp .ge 24, 3) := by decide +kernel
theorem dX8_longest_16 : decode cX8_longest 16 = .ok (.aload_n 0, 1) := by decide +kernel
theorem dX8_longest_17 : decode cX8_longest 17 = .ok (.getfield 50, 3) := by decide +kernel
theorem dX8_longest_20 : decode cX8_longest 20 = .ok (.iload_n 3, 1) := by decide +kernel
theorem dX8_longest_21 : decode cX8_longest 21 = .ok (.iaload, 1) := by decide +kernel
theorem dX8_longest_22 : decode cX8_longest 22 = .ok (.ifCond .le 7, 3) := by decide +kernel
theorem dX8_longest_25 : decode cX8_longest 25 = .ok (.iload_n 3, 1) := by decide +kernel
theorem dX8_longest_26 : decode cX8_longest 26 = .ok (.goto 4, 3) := by decide +kernel
theorem dX8_longest_29 : decode cX8_longest 29 = .ok (.iload_n 2, 1) := by decide +kernel
theorem dX8_longest_30 : decode cX8_longest 30 = .ok (.istore_n 2, 1) := by decide +kernel
theorem dX8_longest_31 : decode cX8_longest 31 = .ok (.iinc 3 1, 3) := by decide +kernel
theorem dX8_longest_34 : decode cX8_longest 34 = .ok (.goto (-24), 3) := by decide +kernel
theorem dX8_longest_37 : decode cX8_longest 37 = .ok (.iload_n 2, 1) := by decide +kernel
theorem dX8_longest_38 : decode cX8_longest 38 = .ok (.ireturn, 1) := by decide +kernel
theorem dX8_adds_0 : decode cX8_adds 0 = .ok (.aload_n 0, 1) := by decide +kernel
theorem dX8_adds_1 : decode cX8_adds 1 = .ok (.getfield 7, 3) := by decide +kernel
theorem dX8_adds_4 : decode cX8_adds 4 = .ok (.iconst 1, 1) := by decide +kernel
theorem dX8_adds_5 : decode cX8_adds 5 = .ok (.iaload, 1) := by decide +kernel
theorem dX8_adds_6 : decode cX8_adds 6 = .ok (.istore_n 2, 1) := by decide +kernel
theorem dX8_adds_7 : decode cX8_adds 7 = .ok (.iconst 0, 1) := by decide +kernel
theorem dX8_adds_8 : decode cX8_adds 8 = .ok (.istore_n 3, 1) := by decide +kernel
theorem dX8_adds_9 : decode cX8_adds 9 = .ok (.iload_n 3, 1) := by decide +kernel
theorem dX8_adds_10 : decode cX8_adds 10 = .ok (.aload_n 0, 1) := by decide +kernel
theorem dX8_adds_11 : decode cX8_adds 11 = .ok (.getfield 7, 3) := by decide +kernel
theorem dX8_adds_14 : decode cX8_adds 14 = .ok (.iconst 0, 1) := by decide +kernel
theorem dX8_adds_15 : decode cX8_adds 15 = .ok (.iaload, 1) := by decide +kernel
theorem dX8_adds_16 : decode cX8_adds 16 = .ok (.if_icmp .ge 26, 3) := by decide +kernel
theorem dX8_adds_19 : decode cX8_adds 19 = .ok (.aload_n 0, 1) := by decide +kernel
theorem dX8_adds_20 : decode cX8_adds 20 = .ok (.getfield 7, 3) := by decide +kernel
theorem dX8_adds_23 : decode cX8_adds 23 = .ok (.bipush 34, 2) := by decide +kernel
theorem dX8_adds_25 : decode cX8_adds 25 = .ok (.bipush 16, 2) := by decide +kernel
theorem dX8_adds_27 : decode cX8_adds 27 = .ok (.iload_n 2, 1) := by decide +kernel
theorem dX8_adds_28 : decode cX8_adds 28 = .ok (.imul, 1) := by decide +kernel
theorem dX8_adds_29 : decode cX8_adds 29 = .ok (.iadd, 1) := by decide +kernel
theorem dX8_adds_30 : decode cX8_adds 30 = .ok (.iload_n 3, 1) := by decide +kernel
theorem dX8_adds_31 : decode cX8_adds 31 = .ok (.iadd, 1) := by decide +kernel
theorem dX8_adds_32 : decode cX8_adds 32 = .ok (.aload_n 1, 1) := by decide +kernel
theorem dX8_adds_33 : decode cX8_adds 33 = .ok (.iload_n 3, 1) := by decide +kernel
theorem dX8_adds_34 : decode cX8_adds 34 = .ok (.iaload, 1) := by decide +kernel
theorem dX8_adds_35 : decode cX8_adds 35 = .ok (.iastore, 1) := by decide +kernel
theorem dX8_adds_36 : decode cX8_adds 36 = .ok (.iinc 3 1, 3) := by decide +kernel
theorem dX8_adds_39 : decode cX8_adds 39 = .ok (.goto (-30), 3) := by decide +kernel
theorem dX8_adds_42 : decode cX8_adds 42 = .ok (.aload_n 0, 1) := by decide +kernel
theorem dX8_adds_43 : decode cX8_adds 43 = .ok (.getfield 7, 3) := by decide +kernel
theorem dX8_adds_46 : decode cX8_adds 46 = .ok (.iconst 1, 1) := by decide +kernel
theorem dX8_adds_47 : decode cX8_adds 47 = .ok (.dup2, 1) := by decide +kernel
theorem dX8_adds_48 : decode cX8_adds 48 = .ok (.iaload, 1) := by decide +kernel
theorem dX8_adds_49 : decode cX8_adds 49 = .ok (.iconst 1, 1) := by decide +kernel
theorem dX8_adds_50 : decode cX8_adds 50 = .ok (.iadd, 1) := by decide +kernel
theorem dX8_adds_51 : decode cX8_adds 51 = .ok (.iastore, 1) := by decide +kernel
theorem dX8_adds_52 : decode cX8_adds 52 = .ok (.iload_n 2, 1) := by decide +kernel
theorem dX8_adds_53 : decode cX8_adds 53 = .ok (.ireturn, 1) := by decide +kernel
theorem dX8_does_0 : decode cX8_does 0 = .ok (.iconst 0, 1) := by decide +kernel
theorem dX8_does_1 : decode cX8_does 1 = .ok (.istore_n 2, 1) := by decide +kernel
theorem dX8_does_2 : decode cX8_does 2 = .ok (.iload_n 2, 1) := by decide +kernel
theorem dX8_does_3 : decode cX8_does 3 = .ok (.aload_n 0, 1) := by decide +kernel
theorem dX8_does_4 : decode cX8_does 4 = .ok (.getfield 7, 3) := by decide +kernel
theorem dX8_does_7 : decode cX8_does 7 = .ok (.iconst 0, 1) := by decide +kernel
theorem dX8_does_8 : decode cX8_does 8 = .ok (.iaload, 1) := by decide +kernel
theorem dX8_does_9 : decode cX8_does 9 = .ok (.if_icmp .ge 25, 3) := by decide +kernel
theorem dX8_does_12 : decode cX8_does 12 = .ok (.aload_n 0, 1) := by decide +kernel
theorem dX8_does_13 : decode cX8_does 13 = .ok (.getfield 44, 3) := by decide +kernel
theorem dX8_does_16 : decode cX8_does 16 = .ok (.aload_n 1, 1) := by decide +kernel
theorem dX8_does_17 : decode cX8_does 17 = .ok (.iload_n 2, 1) := by decide +kernel
theorem dX8_does_18 : decode cX8_does 18 = .ok (.iaload, 1) := by decide +kernel
theorem dX8_does_19 : decode cX8_does 19 = .ok (.aload_n 0, 1) := by decide +kernel
theorem dX8_does_20 : decode cX8_does 20 = .ok (.getfield 7, 3) := by decide +kernel
theorem dX8_does_23 : decode cX8_does 23 = .ok (.iconst 2, 1) := by decide +kernel
theorem dX8_does_24 : decode cX8_does 24 = .ok (.iload_n 2, 1) := by decide +kernel
theorem dX8_does_25 : decode cX8_does 25 = .ok (.iadd, 1) := by decide +kernel
theorem dX8_does_26 : decode cX8_does 26 = .ok (.iaload, 1) := by decide +kernel
theorem dX8_does_27 : decode cX8_does 27 = .ok (.iastore, 1) := by decide +kernel
theorem dX8_does_28 : decode cX8_does 28 = .ok (.iinc 2 1, 3) := by decide +kernel
theorem dX8_does_31 : decode cX8_does 31 = .ok (.goto (-29), 3) := by decide +kernel
theorem dX8_does_34 : decode cX8_does 34 = .ok (.iconst 0, 1) := by decide +kernel
theorem dX8_does_35 : decode cX8_does 35 = .ok (.istore_n 2, 1) := by decide +kernel
theorem dX8_does_36 : decode cX8_does 36 = .ok (.iload_n 2, 1) := by decide +kernel
theorem dX8_does_37 : decode cX8_does 37 = .ok (.aload_n 0, 1) := by decide +kernel
theorem dX8_does_38 : decode cX8_does 38 = .ok (.getfield 7, 3) := by decide +kernel
theorem dX8_does_41 : decode cX8_does 41 = .ok (.iconst 0, 1) := by decide +kernel
theorem dX8_does_42 : decode cX8_does 42 = .ok (.iaload, 1) := by decide +kernel
theorem dX8_does_43 : decode cX8_does 43 = .ok (.if_icmp .ge 43, 3) := by decide +kernel
theorem dX8_does_46 : decode cX8_does 46 = .ok (.aload_n 0, 1) := by decide +kernel
theorem dX8_does_47 : decode cX8_does 47 = .ok (.getfield 7, 3) := by decide +kernel
theorem dX8_does_50 : decode cX8_does 50 = .ok (.iconst 2, 1) := by decide +kernel
theorem dX8_does_51 : decode cX8_does 51 = .ok (.iload_n 2, 1) := by decide +kernel
theorem dX8_does_52 : decode cX8_does 52 = .ok (.iadd, 1) := by decide +kernel
theorem dX8_does_53 : decode cX8_does 53 = .ok (.aload_n 0, 1) := by decide +kernel
theorem dX8_does_54 : decode cX8_does 54 = .ok (.getfield 44, 3) := by decide +kernel
theorem dX8_does_57 : decode cX8_does 57 = .ok (.iload_n 2, 1) := by decide +kernel
theorem dX8_does_58 : decode cX8_does 58 = .ok (.iaload, 1) := by decide +kernel
theorem dX8_does_59 : decode cX8_does 59 = .ok (.iastore, 1) := by decide +kernel
theorem dX8_does_60 : decode cX8_does 60 = .ok (.aload_n 0, 1) := by decide +kernel
theorem dX8_does_61 : decode cX8_does 61 = .ok (.getfield 7, 3) := by decide +kernel
theorem dX8_does_64 : decode cX8_does 64 = .ok (.bipush 18, 2) := by decide +kernel
theorem dX8_does_66 : decode cX8_does 66 = .ok (.iload_n 2, 1) := by decide +kernel
theorem dX8_does_67 : decode cX8_does 67 = .ok (.iadd, 1) := by decide +kernel
theorem dX8_does_68 : decode cX8_does 68 = .ok (.aload_n 1, 1) := by decide +kernel
theorem dX8_does_69 : decode cX8_does 69 = .ok (.aload_n 0, 1) := by decide +kernel
theorem dX8_does_70 : decode cX8_does 70 = .ok (.getfield 7, 3) := by decide +kernel
theorem dX8_does_73 : decode cX8_does 73 = .ok (.bipush 18, 2) := by decide +kernel
theorem dX8_does_75 : decode cX8_does 75 = .ok (.iload_n 2, 1) := by decide +kernel
theorem dX8_does_76 : decode cX8_does 76 = .ok (.iadd, 1) := by decide +kernel
theorem dX8_does_77 : decode cX8_does 77 = .ok (.iaload, 1) := by decide +kernel
theorem dX8_does_78 : decode cX8_does 78 = .ok (.iaload, 1) := by decide +kernel
theorem dX8_does_79 : decode cX8_does 79 = .ok (.iastore, 1) := by decide +kernel
theorem dX8_does_80 : decode cX8_does 80 = .ok (.iinc 2 1, 3) := by decide +kernel
theorem dX8_does_83 : decode cX8_does 83 = .ok (.goto (-47), 3) := by decide +kernel
theorem dX8_does_86 : decode cX8_does 86 = .ok (.aload_n 0, 1) := by decide +kernel
theorem dX8_does_87 : decode cX8_does 87 = .ok (.getfield 7, 3) := by decide +kernel
theorem dX8_does_90 : decode cX8_does 90 = .ok (.iconst 2, 1) := by decide +kernel
theorem dX8_does_91 : decode cX8_does 91 = .ok (.iaload, 1) := by decide +kernel
theorem dX8_does_92 : decode cX8_does 92 = .ok (.ireturn, 1) := by decide +kernel
theorem dX8_set_0 : decode cX8_set 0 = .ok (.aload_n 0, 1) := by decide +kernel
theorem dX8_set_1 : decode cX8_set 1 = .ok (.iconst 0, 1) := by decide +kernel
theorem dX8_set_2 : decode cX8_set 2 = .ok (.putfield 53, 3) := by decide +kernel
theorem dX8_set_5 : decode cX8_set 5 = .ok (.iload_n 1, 1) := by decide +kernel
theorem dX8_set_6 : decode cX8_set 6 = .ok (.iconst 2, 1) := by decide +kernel
theorem dX8_set_7 : decode cX8_set 7 = .ok (.bipush 16, 2) := by decide +kernel
theorem dX8_set_9 : decode cX8_set 9 = .ok (.invokestatic 64, 3) := by decide +kernel
theorem dX8_set_12 : decode cX8_set 12 = .ok (.ifCond .ne 6, 3) := by decide +kernel
theorem dX8_set_15 : decode cX8_set 15 = .ok (.bipush (-2), 2) := by decide +kernel
theorem dX8_set_17 : decode cX8_set 17 = .ok (.ireturn, 1) := by decide +kernel
theorem dX8_set_18 : decode cX8_set 18 = .ok (.aload_n 0, 1) := by decide +kernel
theorem dX8_set_19 : decode cX8_set 19 = .ok (.invokevirtual 83, 3) := by decide +kernel
theorem dX8_set_22 : decode cX8_set 22 = .ok (.aload_n 0, 1) := by decide +kernel
theorem dX8_set_23 : decode cX8_set 23 = .ok (.getfield 7, 3) := by decide +kernel
theorem dX8_set_26 : decode cX8_set 26 = .ok (.iconst 0, 1) := by decide +kernel
theorem dX8_set_27 : decode cX8_set 27 = .ok (.iaload, 1) := by decide +kernel
theorem dX8_set_28 : decode cX8_set 28 = .ok (.istore_n 2, 1) := by decide +kernel
theorem dX8_set_29 : decode cX8_set 29 = .ok (.aload_n 0, 1) := by decide +kernel
theorem dX8_set_30 : decode cX8_set 30 = .ok (.iload_n 1, 1) := by decide +kernel
theorem dX8_set_31 : decode cX8_set 31 = .ok (.invokevirtual 57, 3) := by decide +kernel
theorem dX8_set_34 : decode cX8_set 34 = .ok (.iload_n 2, 1) := by decide +kernel
theorem dX8_set_35 : decode cX8_set 35 = .ok (.ireturn, 1) := by decide +kernel
theorem dX8_mark_0 : decode cX8_mark 0 = .ok (.aload_n 0, 1) := by decide +kernel
theorem dX8_mark_1 : decode cX8_mark 1 = .ok (.iconst 0, 1) := by decide +kernel
theorem dX8_mark_2 : decode cX8_mark 2 = .ok (.putfield 53, 3) := by decide +kernel
theorem dX8_mark_5 : decode cX8_mark 5 = .ok (.aload_n 0, 1) := by decide +kernel
theorem dX8_mark_6 : decode cX8_mark 6 = .ok (.invokevirtual 86, 3) := by decide +kernel
theorem dX8_mark_9 : decode cX8_mark 9 = .ok (.bipush (-6), 2) := by decide +kernel
theorem dX8_mark_11 : decode cX8_mark 11 = .ok (.if_icmp .eq 6, 3) := by decide +kernel
theorem dX8_mark_14 : decode cX8_mark 14 = .ok (.bipush (-3), 2) := by decide +kernel
theorem dX8_mark_16 : decode cX8_mark 16 = .ok (.ireturn, 1) := by decide +kernel
theorem dX8_mark_17 : decode cX8_mark 17 = .ok (.aload_n 0, 1) := by decide +kernel
theorem dX8_mark_18 : decode cX8_mark 18 = .ok (.getfield 7, 3) := by decide +kernel
theorem dX8_mark_21 : decode cX8_mark 21 = .ok (.iconst 1, 1) := by decide +kernel
theorem dX8_mark_22 : decode cX8_mark 22 = .ok (.iaload, 1) := by decide +kernel
theorem dX8_mark_23 : decode cX8_mark 23 = .ok (.bipush 6, 2) := by decide +kernel
theorem dX8_mark_25 : decode cX8_mark 25 = .ok (.if_icmp .ne 6, 3) := by decide +kernel
theorem dX8_mark_28 : decode cX8_mark 28 = .ok (.bipush (-4), 2) := by decide +kernel
theorem dX8_mark_30 : decode cX8_mark 30 = .ok (.ireturn, 1) := by decide +kernel
theorem dX8_mark_31 : decode cX8_mark 31 = .ok (.aload_n 0, 1) := by decide +kernel
theorem dX8_mark_32 : decode cX8_mark 32 = .ok (.invokevirtual 83, 3) := by decide +kernel
theorem dX8_mark_35 : decode cX8_mark 35 = .ok (.aload_n 0, 1) := by decide +kernel
theorem dX8_mark_36 : decode cX8_mark 36 = .ok (.iconst 0, 1) := by decide +kernel
theorem dX8_mark_37 : decode cX8_mark 37 = .ok (.putfield 90, 3) := by decide +kernel
theorem dX8_mark_40 : decode cX8_mark 40 = .ok (.aload_n 0, 1) := by decide +kernel
theorem dX8_mark_41 : decode cX8_mark 41 = .ok (.aload_n 0, 1) := by decide +kernel
theorem dX8_mark_42 : decode cX8_mark 42 = .ok (.getfield 26, 3) := by decide +kernel
theorem dX8_mark_45 : decode cX8_mark 45 = .ok (.invokevirtual 93, 3) := by decide +kernel
theorem dX8_mark_48 : decode cX8_mark 48 = .ok (.ireturn, 1) := by decide +kernel
theorem dX8_product_0 : decode cX8_product 0 = .ok (.aload_n 0, 1) := by decide +kernel
theorem dX8_product_1 : decode cX8_product 1 = .ok (.iconst 0, 1) := by decide +kernel
theorem dX8_product_2 : decode cX8_product 2 = .ok (.putfield 53, 3) := by decide +kernel
theorem dX8_product_5 : decode cX8_product 5 = .ok (.aload_n 0, 1) := by decide +kernel
theorem dX8_product_6 : decode cX8_product 6 = .ok (.iload_n 1, 1) := by decide +kernel
theorem dX8_product_7 : decode cX8_product 7 = .ok (.invokevirtual 68, 3) := by decide +kernel
theorem dX8_product_10 : decode cX8_product 10 = .ok (.ifCond .eq 11, 3) := by decide +kernel
theorem dX8_product_13 : decode cX8_product 13 = .ok (.aload_n 0, 1) := by decide +kernel
theorem dX8_product_14 : decode cX8_product 14 = .ok (.iload_n 2, 1) := by decide +kernel
theorem dX8_product_15 : decode cX8_product 15 = .ok (.invokevirtual 68, 3) := by decide +kernel
theorem dX8_product_18 : decode cX8_product 18 = .ok (.ifCond .ne 5, 3) := by decide +kernel
theorem dX8_product_21 : decode cX8_product 21 = .ok (.iconst (-1), 1) := by decide +kernel
theorem dX8_product_22 : decode cX8_product 22 = .ok (.ireturn, 1) := by decide +kernel
theorem dX8_product_23 : decode cX8_product 23 = .ok (.aload_n 0, 1) := by decide +kernel
theorem dX8_product_24 : decode cX8_product 24 = .ok (.getfield 7, 3) := by decide +kernel
theorem dX8_product_27 : decode cX8_product 27 = .ok (.iconst 1, 1) := by decide +kernel
theorem dX8_product_28 : decode cX8_product 28 = .ok (.iaload, 1) := by decide +kernel
theorem dX8_product_29 : decode cX8_product 29 = .ok (.bipush 6, 2) := by decide +kernel
theorem dX8_product_31 : decode cX8_product 31 = .ok (.if_icmp .ne 6, 3) := by decide +kernel
theorem dX8_product_34 : decode cX8_product 34 = .ok (.bipush (-4), 2) := by decide +kernel
theorem dX8_product_36 : decode cX8_product 36 = .ok (.ireturn, 1) := by decide +kernel
theorem dX8_product_37 : decode cX8_product 37 = .ok (.aload_n 0, 1) := by decide +kernel
theorem dX8_product_38 : decode cX8_product 38 = .ok (.invokevirtual 83, 3) := by decide +kernel
theorem dX8_product_41 : decode cX8_product 41 = .ok (.aload_n 0, 1) := by decide +kernel
theorem dX8_product_42 : decode cX8_product 42 = .ok (.aload_n 0, 1) := by decide +kernel
theorem dX8_product_43 : decode cX8_product 43 = .ok (.getfield 32, 3) := by decide +kernel
theorem dX8_product_46 : decode cX8_product 46 = .ok (.iload_n 1, 1) := by decide +kernel
theorem dX8_product_47 : decode cX8_product 47 = .ok (.invokevirtual 96, 3) := by decide +kernel
theorem dX8_product_50 : decode cX8_product 50 = .ok (.aload_n 0, 1) := by decide +kernel
theorem dX8_product_51 : decode cX8_product 51 = .ok (.aload_n 0, 1) := by decide +kernel
theorem dX8_product_52 : decode cX8_product 52 = .ok (.getfield 35, 3) := by decide +kernel
theorem dX8_product_55 : decode cX8_product 55 = .ok (.iload_n 2, 1) := by decide +kernel
theorem dX8_product_56 : decode cX8_product 56 = .ok (.invokevirtual 96, 3) := by decide +kernel
theorem dX8_product_59 : decode cX8_product 59 = .ok (.aload_n 0, 1) := by decide +kernel
theorem dX8_product_60 : decode cX8_product 60 = .ok (.aload_n 0, 1) := by decide +kernel
theorem dX8_product_61 : decode cX8_product 61 = .ok (.getfield 38, 3) := by decide +kernel
theorem dX8_product_64 : decode cX8_product 64 = .ok (.aload_n 0, 1) := by decide +kernel
theorem dX8_product_65 : decode cX8_product 65 = .ok (.getfield 32, 3) := by decide +kernel
theorem dX8_product_68 : decode cX8_product 68 = .ok (.aload_n 0, 1) := by decide +kernel
theorem dX8_product_69 : decode cX8_product 69 = .ok (.getfield 35, 3) := by decide +kernel
theorem dX8_product_72 : decode cX8_product 72 = .ok (.invokevirtual 100, 3) := by decide +kernel
theorem dX8_product_75 : decode cX8_product 75 = .ok (.aload_n 0, 1) := by decide +kernel
theorem dX8_product_76 : decode cX8_product 76 = .ok (.aload_n 0, 1) := by decide +kernel
theorem dX8_product_77 : decode cX8_product 77 = .ok (.getfield 38, 3) := by decide +kernel
theorem dX8_product_80 : decode cX8_product 80 = .ok (.invokevirtual 93, 3) := by decide +kernel
theorem dX8_product_83 : decode cX8_product 83 = .ok (.ireturn, 1) := by decide +kernel
theorem dX8_power_0 : decode cX8_power 0 = .ok (.aload_n 0, 1) := by decide +kernel
theorem dX8_power_1 : decode cX8_power 1 = .ok (.iconst 0, 1) := by decide +kernel
theorem dX8_power_2 : decode cX8_power 2 = .ok (.putfield 53, 3) := by decide +kernel
theorem dX8_power_5 : decode cX8_power 5 = .ok (.aload_n 0, 1) := by decide +kernel
theorem dX8_power_6 : decode cX8_power 6 = .ok (.iload_n 1, 1) := by decide +kernel
theorem dX8_power_7 : decode cX8_power 7 = .ok (.invokevirtual 68, 3) := by decide +kernel
theorem dX8_power_10 : decode cX8_power 10 = .ok (.ifCond .ne 5, 3) := by decide +kernel
theorem dX8_power_13 : decode cX8_power 13 = .ok (.iconst (-1), 1) := by decide +kernel
theorem dX8_power_14 : decode cX8_power 14 = .ok (.ireturn, 1) := by decide +kernel
theorem dX8_power_15 : decode cX8_power 15 = .ok (.iload_n 2, 1) := by decide +kernel
theorem dX8_power_16 : decode cX8_power 16 = .ok (.sipush (-999), 3) := by decide +kernel
theorem dX8_power_19 : decode cX8_power 19 = .ok (.sipush 999, 3) := by decide +kernel
theorem dX8_power_22 : decode cX8_power 22 = .ok (.invokestatic 64, 3) := by decide +kernel
theorem dX8_power_25 : decode cX8_power 25 = .ok (.ifCond .ne 6, 3) := by decide +kernel
theorem dX8_power_28 : decode cX8_power 28 = .ok (.bipush (-2), 2) := by decide +kernel
theorem dX8_power_30 : decode cX8_power 30 = .ok (.ireturn, 1) := by decide +kernel
theorem dX8_power_31 : decode cX8_power 31 = .ok (.aload_n 0, 1) := by decide +kernel
theorem dX8_power_32 : decode cX8_power 32 = .ok (.getfield 7, 3) := by decide +kernel
theorem dX8_power_35 : decode cX8_power 35 = .ok (.iconst 1, 1) := by decide +kernel
theorem dX8_power_36 : decode cX8_power 36 = .ok (.iaload, 1) := by decide +kernel
theorem dX8_power_37 : decode cX8_power 37 = .ok (.bipush 6, 2) := by decide +kernel
theorem dX8_power_39 : decode cX8_power 39 = .ok (.if_icmp .ne 6, 3) := by decide +kernel
theorem dX8_power_42 : decode cX8_power 42 = .ok (.bipush (-4), 2) := by decide +kernel
theorem dX8_power_44 : decode cX8_power 44 = .ok (.ireturn, 1) := by decide +kernel
theorem dX8_power_45 : decode cX8_power 45 = .ok (.aload_n 0, 1) := by decide +kernel
theorem dX8_power_46 : decode cX8_power 46 = .ok (.invokevirtual 83, 3) := by decide +kernel
theorem dX8_power_49 : decode cX8_power 49 = .ok (.aload_n 0, 1) := by decide +kernel
theorem dX8_power_50 : decode cX8_power 50 = .ok (.aload_n 0, 1) := by decide +kernel
theorem dX8_power_51 : decode cX8_power 51 = .ok (.getfield 32, 3) := by decide +kernel
theorem dX8_power_54 : decode cX8_power 54 = .ok (.iload_n 1, 1) := by decide +kernel
theorem dX8_power_55 : decode cX8_power 55 = .ok (.invokevirtual 96, 3) := by decide +kernel
theorem dX8_power_58 : decode cX8_power 58 = .ok (.iconst 0, 1) := by decide +kernel
theorem dX8_power_59 : decode cX8_power 59 = .ok (.istore_n 3, 1) := by decide +kernel
theorem dX8_power_60 : decode cX8_power 60 = .ok (.iload_n 3, 1) := by decide +kernel
theorem dX8_power_61 : decode cX8_power 61 = .ok (.aload_n 0, 1) := by decide +kernel
theorem dX8_power_62 : decode cX8_power 62 = .ok (.getfield 7, 3) := by decide +kernel
theorem dX8_power_65 : decode cX8_power 65 = .ok (.iconst 0, 1) := by decide +kernel
theorem dX8_power_66 : decode cX8_power 66 = .ok (.iaload, 1) := by decide +kernel
theorem dX8_power_67 : decode cX8_power 67 = .ok (.if_icmp .ge 25, 3) := by decide +kernel
theorem dX8_power_70 : decode cX8_power 70 = .ok (.aload_n 0, 1) := by decide +kernel
theorem dX8_power_71 : decode cX8_power 71 = .ok (.getfield 35, 3) := by decide +kernel
theorem dX8_power_74 : decode cX8_power 74 = .ok (.iload_n 3, 1) := by decide +kernel
theorem dX8_power_75 : decode cX8_power 75 = .ok (.aload_n 0, 1) := by decide +kernel
theorem dX8_power_76 : decode cX8_power 76 = .ok (.aload_n 0, 1) := by decide +kernel
theorem dX8_power_77 : decode cX8_power 77 = .ok (.getfield 32, 3) := by decide +kernel
theorem dX8_power_80 : decode cX8_power 80 = .ok (.iload_n 2, 1) := by decide +kernel
theorem dX8_power_81 : decode cX8_power 81 = .ok (.iload_n 3, 1) := by decide +kernel
theorem dX8_power_82 : decode cX8_power 82 = .ok (.invokevirtual 104, 3) := by decide +kernel
theorem dX8_power_85 : decode cX8_power 85 = .ok (.iastore, 1) := by decide +kernel
theorem dX8_power_86 : decode cX8_power 86 = .ok (.iinc 3 1, 3) := by decide +kernel
theorem dX8_power_89 : decode cX8_power 89 = .ok (.goto (-29), 3) := by decide +kernel
theorem dX8_power_92 : decode cX8_power 92 = .ok (.aload_n 0, 1) := by decide +kernel
theorem dX8_power_93 : decode cX8_power 93 = .ok (.aload_n 0, 1) := by decide +kernel
theorem dX8_power_94 : decode cX8_power 94 = .ok (.getfield 35, 3) := by decide +kernel
theorem dX8_power_97 : decode cX8_power 97 = .ok (.invokevirtual 93, 3) := by decide +kernel
theorem dX8_power_100 : decode cX8_power 100 = .ok (.ireturn, 1) := by decide +kernel
theorem dX8_trick_0 : decode cX8_trick 0 = .ok (.aload_n 0, 1) := by decide +kernel
theorem dX8_trick_1 : decode cX8_trick 1 = .ok (.iconst 0, 1) := by decide +kernel
theorem dX8_trick_2 : decode cX8_trick 2 = .ok (.putfield 53, 3) := by decide +kernel
theorem dX8_trick_5 : decode cX8_trick 5 = .ok (.aload_n 0, 1) := by decide +kernel
theorem dX8_trick_6 : decode cX8_trick 6 = .ok (.getfield 7, 3) := by decide +kernel
theorem dX8_trick_9 : decode cX8_trick 9 = .ok (.iconst 1, 1) := by decide +kernel
theorem dX8_trick_10 : decode cX8_trick 10 = .ok (.iaload, 1) := by decide +kernel
theorem dX8_trick_11 : decode cX8_trick 11 = .ok (.bipush 6, 2) := by decide +kernel
theorem dX8_trick_13 : decode cX8_trick 13 = .ok (.if_icmp .ne 6, 3) := by decide +kernel
theorem dX8_trick_16 : decode cX8_trick 16 = .ok (.bipush (-4), 2) := by decide +kernel
theorem dX8_trick_18 : decode cX8_trick 18 = .ok (.ireturn, 1) := by decide +kernel
theorem dX8_trick_19 : decode cX8_trick 19 = .ok (.aload_n 0, 1) := by decide +kernel
theorem dX8_trick_20 : decode cX8_trick 20 = .ok (.invokevirtual 83, 3) := by decide +kernel
theorem dX8_trick_23 : decode cX8_trick 23 = .ok (.aload_n 0, 1) := by decide +kernel
theorem dX8_trick_24 : decode cX8_trick 24 = .ok (.aload_n 0, 1) := by decide +kernel
theorem dX8_trick_25 : decode cX8_trick 25 = .ok (.getfield 32, 3) := by decide +kernel
theorem dX8_trick_28 : decode cX8_trick 28 = .ok (.bipush (-6), 2) := by decide +kernel
theorem dX8_trick_30 : decode cX8_trick 30 = .ok (.invokevirtual 96, 3) := by decide +kernel
theorem dX8_trick_33 : decode cX8_trick 33 = .ok (.aload_n 0, 1) := by decide +kernel
theorem dX8_trick_34 : decode cX8_trick 34 = .ok (.aload_n 0, 1) := by decide +kernel
theorem dX8_trick_35 : decode cX8_trick 35 = .ok (.getfield 32, 3) := by decide +kernel
theorem dX8_trick_38 : decode cX8_trick 38 = .ok (.invokevirtual 93, 3) := by decide +kernel
theorem dX8_trick_41 : decode cX8_trick 41 = .ok (.ireturn, 1) := by decide +kernel
theorem dX8_drop_0 : decode cX8_drop 0 = .ok (.aload_n 0, 1) := by decide +kernel
theorem dX8_drop_1 : decode cX8_drop 1 = .ok (.iconst 0, 1) := by decide +kernel
theorem dX8_drop_2 : decode cX8_drop 2 = .ok (.putfield 53, 3) := by decide +kernel
theorem dX8_drop_5 : decode cX8_drop 5 = .ok (.aload_n 0, 1) := by decide +kernel
theorem dX8_drop_6 : decode cX8_drop 6 = .ok (.iload_n 1, 1) := by decide +kernel
theorem dX8_drop_7 : decode cX8_drop 7 = .ok (.invokevirtual 68, 3) := by decide +kernel
theorem dX8_drop_10 : decode cX8_drop 10 = .ok (.ifCond .ne 5, 3) := by decide +kernel
theorem dX8_drop_13 : decode cX8_drop 13 = .ok (.iconst (-1), 1) := by decide +kernel
theorem dX8_drop_14 : decode cX8_drop 14 = .ok (.ireturn, 1) := by decide +kernel
theorem dX8_drop_15 : decode cX8_drop 15 = .ok (.aload_n 0, 1) := by decide +kernel
theorem dX8_drop_16 : decode cX8_drop 16 = .ok (.invokevirtual 83, 3) := by decide +kernel
theorem dX8_drop_19 : decode cX8_drop 19 = .ok (.aload_n 0, 1) := by decide +kernel
theorem dX8_drop_20 : decode cX8_drop 20 = .ok (.getfield 7, 3) := by decide +kernel
theorem dX8_drop_23 : decode cX8_drop 23 = .ok (.iconst 1, 1) := by decide +kernel
theorem dX8_drop_24 : decode cX8_drop 24 = .ok (.dup2, 1) := by decide +kernel
theorem dX8_drop_25 : decode cX8_drop 25 = .ok (.iaload, 1) := by decide +kernel
theorem dX8_drop_26 : decode cX8_drop 26 = .ok (.iconst 1, 1) := by decide +kernel
theorem dX8_drop_27 : decode cX8_drop 27 = .ok (.isub, 1) := by decide +kernel
theorem dX8_drop_28 : decode cX8_drop 28 = .ok (.iastore, 1) := by decide +kernel
theorem dX8_drop_29 : decode cX8_drop 29 = .ok (.bipush 16, 2) := by decide +kernel
theorem dX8_drop_31 : decode cX8_drop 31 = .ok (.iload_n 1, 1) := by decide +kernel
theorem dX8_drop_32 : decode cX8_drop 32 = .ok (.imul, 1) := by decide +kernel
theorem dX8_drop_33 : decode cX8_drop 33 = .ok (.istore_n 2, 1) := by decide +kernel
theorem dX8_drop_34 : decode cX8_drop 34 = .ok (.iload_n 2, 1) := by decide +kernel
theorem dX8_drop_35 : decode cX8_drop 35 = .ok (.bipush 16, 2) := by decide +kernel
theorem dX8_drop_37 : decode cX8_drop 37 = .ok (.aload_n 0, 1) := by decide +kernel
theorem dX8_drop_38 : decode cX8_drop 38 = .ok (.getfield 7, 3) := by decide +kernel
theorem dX8_drop_41 : decode cX8_drop 41 = .ok (.iconst 1, 1) := by decide +kernel
theorem dX8_drop_42 : decode cX8_drop 42 = .ok (.iaload, 1) := by decide +kernel
theorem dX8_drop_43 : decode cX8_drop 43 = .ok (.imul, 1) := by decide +kernel
theorem dX8_drop_44 : decode cX8_drop 44 = .ok (.if_icmp .ge 30, 3) := by decide +kernel
theorem dX8_drop_47 : decode cX8_drop 47 = .ok (.aload_n 0, 1) := by decide +kernel
theorem dX8_drop_48 : decode cX8_drop 48 = .ok (.getfield 7, 3) := by decide +kernel
theorem dX8_drop_51 : decode cX8_drop 51 = .ok (.bipush 34, 2) := by decide +kernel
theorem dX8_drop_53 : decode cX8_drop 53 = .ok (.iload_n 2, 1) := by decide +kernel
theorem dX8_drop_54 : decode cX8_drop 54 = .ok (.iadd, 1) := by decide +kernel
theorem dX8_drop_55 : decode cX8_drop 55 = .ok (.aload_n 0, 1) := by decide +kernel
theorem dX8_drop_56 : decode cX8_drop 56 = .ok (.getfield 7, 3) := by decide +kernel
theorem dX8_drop_59 : decode cX8_drop 59 = .ok (.bipush 34, 2) := by decide +kernel
theorem dX8_drop_61 : decode cX8_drop 61 = .ok (.iload_n 2, 1) := by decide +kernel
theorem dX8_drop_62 : decode cX8_drop 62 = .ok (.iadd, 1) := by decide +kernel
theorem dX8_drop_63 : decode cX8_drop 63 = .ok (.bipush 16, 2) := by decide +kernel
theorem dX8_drop_65 : decode cX8_drop 65 = .ok (.iadd, 1) := by decide +kernel
theorem dX8_drop_66 : decode cX8_drop 66 = .ok (.iaload, 1) := by decide +kernel
theorem dX8_drop_67 : decode cX8_drop 67 = .ok (.iastore, 1) := by decide +kernel
theorem dX8_drop_68 : decode cX8_drop 68 = .ok (.iinc 2 1, 3) := by decide +kernel
theorem dX8_drop_71 : decode cX8_drop 71 = .ok (.goto (-37), 3) := by decide +kernel
theorem dX8_drop_74 : decode cX8_drop 74 = .ok (.iconst 0, 1) := by decide +kernel
theorem dX8_drop_75 : decode cX8_drop 75 = .ok (.istore_n 2, 1) := by decide +kernel
theorem dX8_drop_76 : decode cX8_drop 76 = .ok (.iload_n 2, 1) := by decide +kernel
theorem dX8_drop_77 : decode cX8_drop 77 = .ok (.bipush 16, 2) := by decide +kernel
theorem dX8_drop_79 : decode cX8_drop 79 = .ok (.if_icmp .ge 29, 3) := by decide +kernel
theorem dX8_drop_82 : decode cX8_drop 82 = .ok (.aload_n 0, 1) := by decide +kernel
theorem dX8_drop_83 : decode cX8_drop 83 = .ok (.getfield 7, 3) := by decide +kernel
theorem dX8_drop_86 : decode cX8_drop 86 = .ok (.bipush 34, 2) := by decide +kernel
theorem dX8_drop_88 : decode cX8_drop 88 = .ok (.bipush 16, 2) := by decide +kernel
theorem dX8_drop_90 : decode cX8_drop 90 = .ok (.aload_n 0, 1) := by decide +kernel
theorem dX8_drop_91 : decode cX8_drop 91 = .ok (.getfield 7, 3) := by decide +kernel
theorem dX8_drop_94 : decode cX8_drop 94 = .ok (.iconst 1, 1) := by decide +kernel
theorem dX8_drop_95 : decode cX8_drop 95 = .ok (.iaload, 1) := by decide +kernel
theorem dX8_drop_96 : decode cX8_drop 96 = .ok (.imul, 1) := by decide +kernel
theorem dX8_drop_97 : decode cX8_drop 97 = .ok (.iadd, 1) := by decide +kernel
theorem dX8_drop_98 : decode cX8_drop 98 = .ok (.iload_n 2, 1) := by decide +kernel
theorem dX8_drop_99 : decode cX8_drop 99 = .ok (.iadd, 1) := by decide +kernel
theorem dX8_drop_100 : decode cX8_drop 100 = .ok (.iconst 0, 1) := by decide +kernel
theorem dX8_drop_101 : decode cX8_drop 101 = .ok (.iastore, 1) := by decide +kernel
theorem dX8_drop_102 : decode cX8_drop 102 = .ok (.iinc 2 1, 3) := by decide +kernel
theorem dX8_drop_105 : decode cX8_drop 105 = .ok (.goto (-29), 3) := by decide +kernel
theorem dX8_drop_108 : decode cX8_drop 108 = .ok (.aload_n 0, 1) := by decide +kernel
theorem dX8_drop_109 : decode cX8_drop 109 = .ok (.getfield 7, 3) := by decide +kernel
theorem dX8_drop_112 : decode cX8_drop 112 = .ok (.iconst 1, 1) := by decide +kernel
theorem dX8_drop_113 : decode cX8_drop 113 = .ok (.iaload, 1) := by decide +kernel
theorem dX8_drop_114 : decode cX8_drop 114 = .ok (.ireturn, 1) := by decide +kernel
theorem dX8_play_0 : decode cX8_play 0 = .ok (.aload_n 0, 1) := by decide +kernel
theorem dX8_play_1 : decode cX8_play 1 = .ok (.iconst 0, 1) := by decide +kernel
theorem dX8_play_2 : decode cX8_play 2 = .ok (.putfield 53, 3) := by decide +kernel
theorem dX8_play_5 : decode cX8_play 5 = .ok (.aload_n 0, 1) := by decide +kernel
theorem dX8_play_6 : decode cX8_play 6 = .ok (.iload_n 1, 1) := by decide +kernel
theorem dX8_play_7 : decode cX8_play 7 = .ok (.invokevirtual 68, 3) := by decide +kernel
theorem dX8_play_10 : decode cX8_play 10 = .ok (.ifCond .ne 5, 3) := by decide +kernel
theorem dX8_play_13 : decode cX8_play 13 = .ok (.iconst (-1), 1) := by decide +kernel
theorem dX8_play_14 : decode cX8_play 14 = .ok (.ireturn, 1) := by decide +kernel
theorem dX8_play_15 : decode cX8_play 15 = .ok (.aload_n 0, 1) := by decide +kernel
theorem dX8_play_16 : decode cX8_play 16 = .ok (.invokevirtual 83, 3) := by decide +kernel
theorem dX8_play_19 : decode cX8_play 19 = .ok (.aload_n 0, 1) := by decide +kernel
theorem dX8_play_20 : decode cX8_play 20 = .ok (.aload_n 0, 1) := by decide +kernel
theorem dX8_play_21 : decode cX8_play 21 = .ok (.getfield 32, 3) := by decide +kernel
theorem dX8_play_24 : decode cX8_play 24 = .ok (.iload_n 1, 1) := by decide +kernel
theorem dX8_play_25 : decode cX8_play 25 = .ok (.invokevirtual 96, 3) := by decide +kernel
theorem dX8_play_28 : decode cX8_play 28 = .ok (.aload_n 0, 1) := by decide +kernel
theorem dX8_play_29 : decode cX8_play 29 = .ok (.aload_n 0, 1) := by decide +kernel
theorem dX8_play_30 : decode cX8_play 30 = .ok (.getfield 32, 3) := by decide +kernel
theorem dX8_play_33 : decode cX8_play 33 = .ok (.invokevirtual 108, 3) := by decide +kernel
theorem dX8_play_36 : decode cX8_play 36 = .ok (.ireturn, 1) := by decide +kernel
theorem dX8_cut_0 : decode cX8_cut 0 = .ok (.aload_n 0, 1) := by decide +kernel
theorem dX8_cut_1 : decode cX8_cut 1 = .ok (.iconst 0, 1) := by decide +kernel
theorem dX8_cut_2 : decode cX8_cut 2 = .ok (.putfield 53, 3) := by decide +kernel
theorem dX8_cut_5 : decode cX8_cut 5 = .ok (.aload_n 0, 1) := by decide +kernel
theorem dX8_cut_6 : decode cX8_cut 6 = .ok (.iload_n 1, 1) := by decide +kernel
theorem dX8_cut_7 : decode cX8_cut 7 = .ok (.invokevirtual 111, 3) := by decide +kernel
theorem dX8_cut_10 : decode cX8_cut 10 = .ok (.ifCond .ne 6, 3) := by decide +kernel
theorem dX8_cut_13 : decode cX8_cut 13 = .ok (.bipush (-2), 2) := by decide +kernel
theorem dX8_cut_15 : decode cX8_cut 15 = .ok (.ireturn, 1) := by decide +kernel
theorem dX8_cut_16 : decode cX8_cut 16 = .ok (.aload_n 0, 1) := by decide +kernel
theorem dX8_cut_17 : decode cX8_cut 17 = .ok (.invokevirtual 83, 3) := by decide +kernel
theorem dX8_cut_20 : decode cX8_cut 20 = .ok (.aload_n 0, 1) := by decide +kernel
theorem dX8_cut_21 : decode cX8_cut 21 = .ok (.aload_n 0, 1) := by decide +kernel
theorem dX8_cut_22 : decode cX8_cut 22 = .ok (.getfield 32, 3) := by decide +kernel
theorem dX8_cut_25 : decode cX8_cut 25 = .ok (.iload_n 1, 1) := by decide +kernel
theorem dX8_cut_26 : decode cX8_cut 26 = .ok (.invokevirtual 114, 3) := by decide +kernel
theorem dX8_cut_29 : decode cX8_cut 29 = .ok (.aload_n 0, 1) := by decide +kernel
theorem dX8_cut_30 : decode cX8_cut 30 = .ok (.aload_n 0, 1) := by decide +kernel
theorem dX8_cut_31 : decode cX8_cut 31 = .ok (.getfield 32, 3) := by decide +kernel
theorem dX8_cut_34 : decode cX8_cut 34 = .ok (.invokevirtual 108, 3) := by decide +kernel
theorem dX8_cut_37 : decode cX8_cut 37 = .ok (.ireturn, 1) := by decide +kernel
theorem dX8_riffle_0 : decode cX8_riffle 0 = .ok (.aload_n 0, 1) := by decide +kernel
theorem dX8_riffle_1 : decode cX8_riffle 1 = .ok (.iconst 0, 1) := by decide +kernel
theorem dX8_riffle_2 : decode cX8_riffle 2 = .ok (.putfield 53, 3) := by decide +kernel
theorem dX8_riffle_5 : decode cX8_riffle 5 = .ok (.iload_n 1, 1) := by decide +kernel
theorem dX8_riffle_6 : decode cX8_riffle 6 = .ok (.iconst 0, 1) := by decide +kernel
theorem dX8_riffle_7 : decode cX8_riffle 7 = .ok (.iconst 1, 1) := by decide +kernel
theorem dX8_riffle_8 : decode cX8_riffle 8 = .ok (.invokestatic 64, 3) := by decide +kernel
theorem dX8_riffle_11 : decode cX8_riffle 11 = .ok (.ifCond .ne 6, 3) := by decide +kernel
theorem dX8_riffle_14 : decode cX8_riffle 14 = .ok (.bipush (-2), 2) := by decide +kernel
theorem dX8_riffle_16 : decode cX8_riffle 16 = .ok (.ireturn, 1) := by decide +kernel
theorem dX8_riffle_17 : decode cX8_riffle 17 = .ok (.aload_n 0, 1) := by decide +kernel
theorem dX8_riffle_18 : decode cX8_riffle 18 = .ok (.invokevirtual 83, 3) := by decide +kernel
theorem dX8_riffle_21 : decode cX8_riffle 21 = .ok (.aload_n 0, 1) := by decide +kernel
theorem dX8_riffle_22 : decode cX8_riffle 22 = .ok (.aload_n 0, 1) := by decide +kernel
theorem dX8_riffle_23 : decode cX8_riffle 23 = .ok (.getfield 32, 3) := by decide +kernel
theorem dX8_riffle_26 : decode cX8_riffle 26 = .ok (.iload_n 1, 1) := by decide +kernel
theorem dX8_riffle_27 : decode cX8_riffle 27 = .ok (.iconst 1, 1) := by decide +kernel
theorem dX8_riffle_28 : decode cX8_riffle 28 = .ok (.if_icmp .ne 7, 3) := by decide +kernel
theorem dX8_riffle_31 : decode cX8_riffle 31 = .ok (.iconst 1, 1) := by decide +kernel
theorem dX8_riffle_32 : decode cX8_riffle 32 = .ok (.goto 4, 3) := by decide +kernel
theorem dX8_riffle_35 : decode cX8_riffle 35 = .ok (.iconst 0, 1) := by decide +kernel
theorem dX8_riffle_36 : decode cX8_riffle 36 = .ok (.invokevirtual 117, 3) := by decide +kernel
theorem dX8_riffle_39 : decode cX8_riffle 39 = .ok (.aload_n 0, 1) := by decide +kernel
theorem dX8_riffle_40 : decode cX8_riffle 40 = .ok (.aload_n 0, 1) := by decide +kernel
theorem dX8_riffle_41 : decode cX8_riffle 41 = .ok (.getfield 32, 3) := by decide +kernel
theorem dX8_riffle_44 : decode cX8_riffle 44 = .ok (.invokevirtual 108, 3) := by decide +kernel
theorem dX8_riffle_47 : decode cX8_riffle 47 = .ok (.ireturn, 1) := by decide +kernel
theorem dX8_turn_0 : decode cX8_turn 0 = .ok (.aload_n 0, 1) := by decide +kernel
theorem dX8_turn_1 : decode cX8_turn 1 = .ok (.iconst 0, 1) := by decide +kernel
theorem dX8_turn_2 : decode cX8_turn 2 = .ok (.putfield 53, 3) := by decide +kernel
theorem dX8_turn_5 : decode cX8_turn 5 = .ok (.aload_n 0, 1) := by decide +kernel
theorem dX8_turn_6 : decode cX8_turn 6 = .ok (.invokevirtual 83, 3) := by decide +kernel
theorem dX8_turn_9 : decode cX8_turn 9 = .ok (.aload_n 0, 1) := by decide +kernel
theorem dX8_turn_10 : decode cX8_turn 10 = .ok (.aload_n 0, 1) := by decide +kernel
theorem dX8_turn_11 : decode cX8_turn 11 = .ok (.getfield 32, 3) := by decide +kernel
theorem dX8_turn_14 : decode cX8_turn 14 = .ok (.invokevirtual 121, 3) := by decide +kernel
theorem dX8_turn_17 : decode cX8_turn 17 = .ok (.aload_n 0, 1) := by decide +kernel
theorem dX8_turn_18 : decode cX8_turn 18 = .ok (.aload_n 0, 1) := by decide +kernel
theorem dX8_turn_19 : decode cX8_turn 19 = .ok (.getfield 32, 3) := by decide +kernel
theorem dX8_turn_22 : decode cX8_turn 22 = .ok (.invokevirtual 108, 3) := by decide +kernel
theorem dX8_turn_25 : decode cX8_turn 25 = .ok (.ireturn, 1) := by decide +kernel
theorem dX8_moved_0 : decode cX8_moved 0 = .ok (.iconst 0, 1) := by decide +kernel
theorem dX8_moved_1 : decode cX8_moved 1 = .ok (.istore_n 1, 1) := by decide +kernel
theorem dX8_moved_2 : decode cX8_moved 2 = .ok (.iconst 0, 1) := by decide +kernel
theorem dX8_moved_3 : decode cX8_moved 3 = .ok (.istore_n 2, 1) := by decide +kernel
theorem dX8_moved_4 : decode cX8_moved 4 = .ok (.iload_n 2, 1) := by decide +kernel
theorem dX8_moved_5 : decode cX8_moved 5 = .ok (.aload_n 0, 1) := by decide +kernel
theorem dX8_moved_6 : decode cX8_moved 6 = .ok (.getfield 7, 3) := by decide +kernel
theorem dX8_moved_9 : decode cX8_moved 9 = .ok (.iconst 0, 1) := by decide +kernel
theorem dX8_moved_10 : decode cX8_moved 10 = .ok (.iaload, 1) := by decide +kernel
theorem dX8_moved_11 : decode cX8_moved 11 = .ok (.if_icmp .ge 30, 3) := by decide +kernel
theorem dX8_moved_14 : decode cX8_moved 14 = .ok (.iload_n 1, 1) := by decide +kernel
theorem dX8_moved_15 : decode cX8_moved 15 = .ok (.aload_n 0, 1) := by decide +kernel
theorem dX8_moved_16 : decode cX8_moved 16 = .ok (.getfield 7, 3) := by decide +kernel
theorem dX8_moved_19 : decode cX8_moved 19 = .ok (.bipush 18, 2) := by decide +kernel
theorem dX8_moved_21 : decode cX8_moved 21 = .ok (.iload_n 2, 1) := by decide +kernel
theorem dX8_moved_22 : decode cX8_moved 22 = .ok (.iadd, 1) := by decide +kernel
theorem dX8_moved_23 : decode cX8_moved 23 = .ok (.iaload, 1) := by decide +kernel
theorem dX8_moved_24 : decode cX8_moved 24 = .ok (.iload_n 2, 1) := by decide +kernel
theorem dX8_moved_25 : decode cX8_moved 25 = .ok (.if_icmp .eq 7, 3) := by decide +kernel
theorem dX8_moved_28 : decode cX8_moved 28 = .ok (.iconst 1, 1) := by decide +kernel
theorem dX8_moved_29 : decode cX8_moved 29 = .ok (.goto 4, 3) := by decide +kernel
theorem dX8_moved_32 : decode cX8_moved 32 = .ok (.iconst 0, 1) := by decide +kernel
theorem dX8_moved_33 : decode cX8_moved 33 = .ok (.iadd, 1) := by decide +kernel
theorem dX8_moved_34 : decode cX8_moved 34 = .ok (.istore_n 1, 1) := by decide +kernel
theorem dX8_moved_35 : decode cX8_moved 35 = .ok (.iinc 2 1, 3) := by decide +kernel
theorem dX8_moved_38 : decode cX8_moved 38 = .ok (.goto (-34), 3) := by decide +kernel
theorem dX8_moved_41 : decode cX8_moved 41 = .ok (.iload_n 1, 1) := by decide +kernel
theorem dX8_moved_42 : decode cX8_moved 42 = .ok (.ireturn, 1) := by decide +kernel
theorem dX8_restart_0 : decode cX8_restart 0 = .ok (.aload_n 0, 1) := by decide +kernel
theorem dX8_restart_1 : decode cX8_restart 1 = .ok (.iconst 0, 1) := by decide +kernel
theorem dX8_restart_2 : decode cX8_restart 2 = .ok (.putfield 53, 3) := by decide +kernel
theorem dX8_restart_5 : decode cX8_restart 5 = .ok (.aload_n 0, 1) := by decide +kernel
theorem dX8_restart_6 : decode cX8_restart 6 = .ok (.invokevirtual 83, 3) := by decide +kernel
theorem dX8_restart_9 : decode cX8_restart 9 = .ok (.aload_n 0, 1) := by decide +kernel
theorem dX8_restart_10 : decode cX8_restart 10 = .ok (.invokevirtual 125, 3) := by decide +kernel
theorem dX8_restart_13 : decode cX8_restart 13 = .ok (.istore_n 1, 1) := by decide +kernel
theorem dX8_restart_14 : decode cX8_restart 14 = .ok (.iconst 0, 1) := by decide +kernel
theorem dX8_restart_15 : decode cX8_restart 15 = .ok (.istore_n 2, 1) := by decide +kernel
theorem dX8_restart_16 : decode cX8_restart 16 = .ok (.iload_n 2, 1) := by decide +kernel
theorem dX8_restart_17 : decode cX8_restart 17 = .ok (.aload_n 0, 1) := by decide +kernel
theorem dX8_restart_18 : decode cX8_restart 18 = .ok (.getfield 7, 3) := by decide +kernel
theorem dX8_restart_21 : decode cX8_restart 21 = .ok (.iconst 0, 1) := by decide +kernel
theorem dX8_restart_22 : decode cX8_restart 22 = .ok (.iaload, 1) := by decide +kernel
theorem dX8_restart_23 : decode cX8_restart 23 = .ok (.if_icmp .ge 19, 3) := by decide +kernel
theorem dX8_restart_26 : decode cX8_restart 26 = .ok (.aload_n 0, 1) := by decide +kernel
theorem dX8_restart_27 : decode cX8_restart 27 = .ok (.getfield 7, 3) := by decide +kernel
theorem dX8_restart_30 : decode cX8_restart 30 = .ok (.bipush 18, 2) := by decide +kernel
theorem dX8_restart_32 : decode cX8_restart 32 = .ok (.iload_n 2, 1) := by decide +kernel
theorem dX8_restart_33 : decode cX8_restart 33 = .ok (.iadd, 1) := by decide +kernel
theorem dX8_restart_34 : decode cX8_restart 34 = .ok (.iload_n 2, 1) := by decide +kernel
theorem dX8_restart_35 : decode cX8_restart 35 = .ok (.iastore, 1) := by decide +kernel
theorem dX8_restart_36 : decode cX8_restart 36 = .ok (.iinc 2 1, 3) := by decide +kernel
theorem dX8_restart_39 : decode cX8_restart 39 = .ok (.goto (-23), 3) := by decide +kernel
theorem dX8_restart_42 : decode cX8_restart 42 = .ok (.iload_n 1, 1) := by decide +kernel
theorem dX8_restart_43 : decode cX8_restart 43 = .ok (.ireturn, 1) := by decide +kernel
theorem dX8_at_0 : decode cX8_at 0 = .ok (.aload_n 0, 1) := by decide +kernel
theorem dX8_at_1 : decode cX8_at 1 = .ok (.iconst 0, 1) := by decide +kernel
theorem dX8_at_2 : decode cX8_at 2 = .ok (.putfield 53, 3) := by decide +kernel
theorem dX8_at_5 : decode cX8_at 5 = .ok (.aload_n 0, 1) := by decide +kernel
theorem dX8_at_6 : decode cX8_at 6 = .ok (.iload_n 1, 1) := by decide +kernel
theorem dX8_at_7 : decode cX8_at 7 = .ok (.invokevirtual 111, 3) := by decide +kernel
theorem dX8_at_10 : decode cX8_at 10 = .ok (.ifCond .eq 14, 3) := by decide +kernel
theorem dX8_at_13 : decode cX8_at 13 = .ok (.aload_n 0, 1) := by decide +kernel
theorem dX8_at_14 : decode cX8_at 14 = .ok (.getfield 7, 3) := by decide +kernel
theorem dX8_at_17 : decode cX8_at 17 = .ok (.iconst 2, 1) := by decide +kernel
theorem dX8_at_18 : decode cX8_at 18 = .ok (.iload_n 1, 1) := by decide +kernel
theorem dX8_at_19 : decode cX8_at 19 = .ok (.iadd, 1) := by decide +kernel
theorem dX8_at_20 : decode cX8_at 20 = .ok (.iaload, 1) := by decide +kernel
theorem dX8_at_21 : decode cX8_at 21 = .ok (.goto 4, 3) := by decide +kernel
theorem dX8_at_24 : decode cX8_at 24 = .ok (.iconst (-1), 1) := by decide +kernel
theorem dX8_at_25 : decode cX8_at 25 = .ok (.ireturn, 1) := by decide +kernel
theorem dX8_where_0 : decode cX8_where 0 = .ok (.aload_n 0, 1) := by decide +kernel
theorem dX8_where_1 : decode cX8_where 1 = .ok (.iconst 0, 1) := by decide +kernel
theorem dX8_where_2 : decode cX8_where 2 = .ok (.putfield 53, 3) := by decide +kernel
theorem dX8_where_5 : decode cX8_where 5 = .ok (.iconst (-1), 1) := by decide +kernel
theorem dX8_where_6 : decode cX8_where 6 = .ok (.istore_n 2, 1) := by decide +kernel
theorem dX8_where_7 : decode cX8_where 7 = .ok (.iconst 0, 1) := by decide +kernel
theorem dX8_where_8 : decode cX8_where 8 = .ok (.istore_n 3, 1) := by decide +kernel
theorem dX8_where_9 : decode cX8_where 9 = .ok (.iload_n 3, 1) := by decide +kernel
theorem dX8_where_10 : decode cX8_where 10 = .ok (.aload_n 0, 1) := by decide +kernel
theorem dX8_where_11 : decode cX8_where 11 = .ok (.getfield 7, 3) := by decide +kernel
theorem dX8_where_14 : decode cX8_where 14 = .ok (.iconst 0, 1) := by decide +kernel
theorem dX8_where_15 : decode cX8_where 15 = .ok (.iaload, 1) := by decide +kernel
theorem dX8_where_16 : decode cX8_where 16 = .ok (.if_icmp .ge 27, 3) := by decide +kernel
theorem dX8_where_19 : decode cX8_where 19 = .ok (.aload_n 0, 1) := by decide +kernel
theorem dX8_where_20 : decode cX8_where 20 = .ok (.getfield 7, 3) := by decide +kernel
theorem dX8_where_23 : decode cX8_where 23 = .ok (.iconst 2, 1) := by decide +kernel
theorem dX8_where_24 : decode cX8_where 24 = .ok (.iload_n 3, 1) := by decide +kernel
theorem dX8_where_25 : decode cX8_where 25 = .ok (.iadd, 1) := by decide +kernel
theorem dX8_where_26 : decode cX8_where 26 = .ok (.iaload, 1) := by decide +kernel
theorem dX8_where_27 : decode cX8_where 27 = .ok (.iload_n 1, 1) := by decide +kernel
theorem dX8_where_28 : decode cX8_where 28 = .ok (.if_icmp .ne 7, 3) := by decide +kernel
theorem dX8_where_31 : decode cX8_where 31 = .ok (.iload_n 3, 1) := by decide +kernel
theorem dX8_where_32 : decode cX8_where 32 = .ok (.goto 4, 3) := by decide +kernel
theorem dX8_where_35 : decode cX8_where 35 = .ok (.iload_n 2, 1) := by decide +kernel
theorem dX8_where_36 : decode cX8_where 36 = .ok (.istore_n 2, 1) := by decide +kernel
theorem dX8_where_37 : decode cX8_where 37 = .ok (.iinc 3 1, 3) := by decide +kernel
theorem dX8_where_40 : decode cX8_where 40 = .ok (.goto (-31), 3) := by decide +kernel
theorem dX8_where_43 : decode cX8_where 43 = .ok (.iload_n 2, 1) := by decide +kernel
theorem dX8_where_44 : decode cX8_where 44 = .ok (.ireturn, 1) := by decide +kernel
theorem dX8_fixed_0 : decode cX8_fixed 0 = .ok (.iconst 0, 1) := by decide +kernel
theorem dX8_fixed_1 : decode cX8_fixed 1 = .ok (.istore_n 2, 1) := by decide +kernel
theorem dX8_fixed_2 : decode cX8_fixed 2 = .ok (.iconst 0, 1) := by decide +kernel
theorem dX8_fixed_3 : decode cX8_fixed 3 = .ok (.istore_n 3, 1) := by decide +kernel
theorem dX8_fixed_4 : decode cX8_fixed 4 = .ok (.iload_n 3, 1) := by decide +kernel
theorem dX8_fixed_5 : decode cX8_fixed 5 = .ok (.aload_n 0, 1) := by decide +kernel
theorem dX8_fixed_6 : decode cX8_fixed 6 = .ok (.getfield 7, 3) := by decide +kernel
theorem dX8_fixed_9 : decode cX8_fixed 9 = .ok (.iconst 0, 1) := by decide +kernel
theorem dX8_fixed_10 : decode cX8_fixed 10 = .ok (.iaload, 1) := by decide +kernel
theorem dX8_fixed_11 : decode cX8_fixed 11 = .ok (.if_icmp .ge 26, 3) := by decide +kernel
theorem dX8_fixed_14 : decode cX8_fixed 14 = .ok (.iload_n 2, 1) := by decide +kernel
theorem dX8_fixed_15 : decode cX8_fixed 15 = .ok (.aload_n 1, 1) := by decide +kernel
theorem dX8_fixed_16 : decode cX8_fixed 16 = .ok (.iload_n 3, 1) := by decide +kernel
theorem dX8_fixed_17 : decode cX8_fixed 17 = .ok (.iaload, 1) := by decide +kernel
theorem dX8_fixed_18 : decode cX8_fixed 18 = .ok (.iload_n 3, 1) := by decide +kernel
theorem dX8_fixed_19 : decode cX8_fixed 19 = .ok (.if_icmp .ne 9, 3) := by decide +kernel
theorem dX8_fixed_22 : decode cX8_fixed 22 = .ok (.iconst 1, 1) := by decide +kernel
theorem dX8_fixed_23 : decode cX8_fixed 23 = .ok (.iload_n 3, 1) := by decide +kernel
theorem dX8_fixed_24 : decode cX8_fixed 24 = .ok (.ishl, 1) := by decide +kernel
theorem dX8_fixed_25 : decode cX8_fixed 25 = .ok (.goto 4, 3) := by decide +kernel
theorem dX8_fixed_28 : decode cX8_fixed 28 = .ok (.iconst 0, 1) := by decide +kernel
theorem dX8_fixed_29 : decode cX8_fixed 29 = .ok (.ior, 1) := by decide +kernel
theorem dX8_fixed_30 : decode cX8_fixed 30 = .ok (.istore_n 2, 1) := by decide +kernel
theorem dX8_fixed_31 : decode cX8_fixed 31 = .ok (.iinc 3 1, 3) := by decide +kernel
theorem dX8_fixed_34 : decode cX8_fixed 34 = .ok (.goto (-30), 3) := by decide +kernel
theorem dX8_fixed_37 : decode cX8_fixed 37 = .ok (.iload_n 2, 1) := by decide +kernel
theorem dX8_fixed_38 : decode cX8_fixed 38 = .ok (.ireturn, 1) := by decide +kernel
theorem dX8_cutsWith_0 : decode cX8_cutsWith 0 = .ok (.iconst 0, 1) := by decide +kernel
theorem dX8_cutsWith_1 : decode cX8_cutsWith 1 = .ok (.istore_n 2, 1) := by decide +kernel
theorem dX8_cutsWith_2 : decode cX8_cutsWith 2 = .ok (.iconst 0, 1) := by decide +kernel
theorem dX8_cutsWith_3 : decode cX8_cutsWith 3 = .ok (.istore_n 3, 1) := by decide +kernel
theorem dX8_cutsWith_4 : decode cX8_cutsWith 4 = .ok (.iload_n 3, 1) := by decide +kernel
theorem dX8_cutsWith_5 : decode cX8_cutsWith 5 = .ok (.aload_n 0, 1) := by decide +kernel
theorem dX8_cutsWith_6 : decode cX8_cutsWith 6 = .ok (.getfield 7, 3) := by decide +kernel
theorem dX8_cutsWith_9 : decode cX8_cutsWith 9 = .ok (.iconst 0, 1) := by decide +kernel
theorem dX8_cutsWith_10 : decode cX8_cutsWith 10 = .ok (.iaload, 1) := by decide +kernel
theorem dX8_cutsWith_11 : decode cX8_cutsWith 11 = .ok (.if_icmp .ge 40, 3) := by decide +kernel
theorem dX8_cutsWith_14 : decode cX8_cutsWith 14 = .ok (.aload_n 0, 1) := by decide +kernel
theorem dX8_cutsWith_15 : decode cX8_cutsWith 15 = .ok (.aload_n 0, 1) := by decide +kernel
theorem dX8_cutsWith_16 : decode cX8_cutsWith 16 = .ok (.getfield 35, 3) := by decide +kernel
theorem dX8_cutsWith_19 : decode cX8_cutsWith 19 = .ok (.iload_n 3, 1) := by decide +kernel
theorem dX8_cutsWith_20 : decode cX8_cutsWith 20 = .ok (.invokevirtual 114, 3) := by decide +kernel
theorem dX8_cutsWith_23 : decode cX8_cutsWith 23 = .ok (.iload_n 2, 1) := by decide +kernel
theorem dX8_cutsWith_24 : decode cX8_cutsWith 24 = .ok (.aload_n 0, 1) := by decide +kernel
theorem dX8_cutsWith_25 : decode cX8_cutsWith 25 = .ok (.aload_n 1, 1) := by decide +kernel
theorem dX8_cutsWith_26 : decode cX8_cutsWith 26 = .ok (.aload_n 0, 1) := by decide +kernel
theorem dX8_cutsWith_27 : decode cX8_cutsWith 27 = .ok (.getfield 35, 3) := by decide +kernel
theorem dX8_cutsWith_30 : decode cX8_cutsWith 30 = .ok (.invokevirtual 128, 3) := by decide +kernel
theorem dX8_cutsWith_33 : decode cX8_cutsWith 33 = .ok (.ifCond .eq 9, 3) := by decide +kernel
theorem dX8_cutsWith_36 : decode cX8_cutsWith 36 = .ok (.iconst 1, 1) := by decide +kernel
theorem dX8_cutsWith_37 : decode cX8_cutsWith 37 = .ok (.iload_n 3, 1) := by decide +kernel
theorem dX8_cutsWith_38 : decode cX8_cutsWith 38 = .ok (.ishl, 1) := by decide +kernel
theorem dX8_cutsWith_39 : decode cX8_cutsWith 39 = .ok (.goto 4, 3) := by decide +kernel
theorem dX8_cutsWith_42 : decode cX8_cutsWith 42 = .ok (.iconst 0, 1) := by decide +kernel
theorem dX8_cutsWith_43 : decode cX8_cutsWith 43 = .ok (.ior, 1) := by decide +kernel
theorem dX8_cutsWith_44 : decode cX8_cutsWith 44 = .ok (.istore_n 2, 1) := by decide +kernel
theorem dX8_cutsWith_45 : decode cX8_cutsWith 45 = .ok (.iinc 3 1, 3) := by decide +kernel
theorem dX8_cutsWith_48 : decode cX8_cutsWith 48 = .ok (.goto (-44), 3) := by decide +kernel
theorem dX8_cutsWith_51 : decode cX8_cutsWith 51 = .ok (.iload_n 2, 1) := by decide +kernel
theorem dX8_cutsWith_52 : decode cX8_cutsWith 52 = .ok (.ireturn, 1) := by decide +kernel
theorem dX8_markAs_0 : decode cX8_markAs 0 = .ok (.iconst 0, 1) := by decide +kernel
theorem dX8_markAs_1 : decode cX8_markAs 1 = .ok (.istore_n 2, 1) := by decide +kernel
theorem dX8_markAs_2 : decode cX8_markAs 2 = .ok (.iload_n 2, 1) := by decide +kernel
theorem dX8_markAs_3 : decode cX8_markAs 3 = .ok (.aload_n 0, 1) := by decide +kernel
theorem dX8_markAs_4 : decode cX8_markAs 4 = .ok (.getfield 7, 3) := by decide +kernel
theorem dX8_markAs_7 : decode cX8_markAs 7 = .ok (.iconst 1, 1) := by decide +kernel
theorem dX8_markAs_8 : decode cX8_markAs 8 = .ok (.iaload, 1) := by decide +kernel
theorem dX8_markAs_9 : decode cX8_markAs 9 = .ok (.if_icmp .ge 32, 3) := by decide +kernel
theorem dX8_markAs_12 : decode cX8_markAs 12 = .ok (.aload_n 0, 1) := by decide +kernel
theorem dX8_markAs_13 : decode cX8_markAs 13 = .ok (.aload_n 0, 1) := by decide +kernel
theorem dX8_markAs_14 : decode cX8_markAs 14 = .ok (.getfield 38, 3) := by decide +kernel
theorem dX8_markAs_17 : decode cX8_markAs 17 = .ok (.iload_n 2, 1) := by decide +kernel
theorem dX8_markAs_18 : decode cX8_markAs 18 = .ok (.invokevirtual 96, 3) := by decide +kernel
theorem dX8_markAs_21 : decode cX8_markAs 21 = .ok (.aload_n 0, 1) := by decide +kernel
theorem dX8_markAs_22 : decode cX8_markAs 22 = .ok (.aload_n 1, 1) := by decide +kernel
theorem dX8_markAs_23 : decode cX8_markAs 23 = .ok (.aload_n 0, 1) := by decide +kernel
theorem dX8_markAs_24 : decode cX8_markAs 24 = .ok (.getfield 38, 3) := by decide +kernel
theorem dX8_markAs_27 : decode cX8_markAs 27 = .ok (.invokevirtual 132, 3) := by decide +kernel
theorem dX8_markAs_30 : decode cX8_markAs 30 = .ok (.ifCond .eq 5, 3) := by decide +kernel
theorem dX8_markAs_33 : decode cX8_markAs 33 = .ok (.iload_n 2, 1) := by decide +kernel
theorem dX8_markAs_34 : decode cX8_markAs 34 = .ok (.ireturn, 1) := by decide +kernel
theorem dX8_markAs_35 : decode cX8_markAs 35 = .ok (.iinc 2 1, 3) := by decide +kernel
theorem dX8_markAs_38 : decode cX8_markAs 38 = .ok (.goto (-36), 3) := by decide +kernel
theorem dX8_markAs_41 : decode cX8_markAs 41 = .ok (.bipush (-6), 2) := by decide +kernel
theorem dX8_markAs_43 : decode cX8_markAs 43 = .ok (.ireturn, 1) := by decide +kernel
theorem dX8_of_0 : decode cX8_of 0 = .ok (.aload_n 0, 1) := by decide +kernel
theorem dX8_of_1 : decode cX8_of 1 = .ok (.iconst 0, 1) := by decide +kernel
theorem dX8_of_2 : decode cX8_of 2 = .ok (.putfield 53, 3) := by decide +kernel
theorem dX8_of_5 : decode cX8_of 5 = .ok (.aload_n 0, 1) := by decide +kernel
theorem dX8_of_6 : decode cX8_of 6 = .ok (.iload_n 1, 1) := by decide +kernel
theorem dX8_of_7 : decode cX8_of 7 = .ok (.invokevirtual 135, 3) := by decide +kernel
theorem dX8_of_10 : decode cX8_of 10 = .ok (.ifCond .ne 5, 3) := by decide +kernel
theorem dX8_of_13 : decode cX8_of 13 = .ok (.iconst (-1), 1) := by decide +kernel
theorem dX8_of_14 : decode cX8_of 14 = .ok (.ireturn, 1) := by decide +kernel
theorem dX8_of_15 : decode cX8_of 15 = .ok (.aload_n 0, 1) := by decide +kernel
theorem dX8_of_16 : decode cX8_of 16 = .ok (.aload_n 0, 1) := by decide +kernel
theorem dX8_of_17 : decode cX8_of 17 = .ok (.getfield 32, 3) := by decide +kernel
theorem dX8_of_20 : decode cX8_of 20 = .ok (.iload_n 1, 1) := by decide +kernel
theorem dX8_of_21 : decode cX8_of 21 = .ok (.invokevirtual 96, 3) := by decide +kernel
theorem dX8_of_24 : decode cX8_of 24 = .ok (.iload_n 2, 1) := by decide +kernel
theorem dX8_of_25 : decode cX8_of 25 = .ok (.tableswitch 135 0 6 #[43, 52, 61, 70, 79, 105, 114], 43) := by decide +kernel
theorem dX8_of_68 : decode cX8_of 68 = .ok (.aload_n 0, 1) := by decide +kernel
theorem dX8_of_69 : decode cX8_of 69 = .ok (.aload_n 0, 1) := by decide +kernel
theorem dX8_of_70 : decode cX8_of 70 = .ok (.getfield 32, 3) := by decide +kernel
theorem dX8_of_73 : decode cX8_of 73 = .ok (.invokevirtual 138, 3) := by decide +kernel
theorem dX8_of_76 : decode cX8_of 76 = .ok (.ireturn, 1) := by decide +kernel
theorem dX8_of_77 : decode cX8_of 77 = .ok (.aload_n 0, 1) := by decide +kernel
theorem dX8_of_78 : decode cX8_of 78 = .ok (.aload_n 0, 1) := by decide +kernel
theorem dX8_of_79 : decode cX8_of 79 = .ok (.getfield 32, 3) := by decide +kernel
theorem dX8_of_82 : decode cX8_of 82 = .ok (.invokevirtual 76, 3) := by decide +kernel
theorem dX8_of_85 : decode cX8_of 85 = .ok (.ireturn, 1) := by decide +kernel
theorem dX8_of_86 : decode cX8_of 86 = .ok (.aload_n 0, 1) := by decide +kernel
theorem dX8_of_87 : decode cX8_of 87 = .ok (.aload_n 0, 1) := by decide +kernel
theorem dX8_of_88 : decode cX8_of 88 = .ok (.getfield 32, 3) := by decide +kernel
theorem dX8_of_91 : decode cX8_of 91 = .ok (.invokevirtual 141, 3) := by decide +kernel
theorem dX8_of_94 : decode cX8_of 94 = .ok (.ireturn, 1) := by decide +kernel
theorem dX8_of_95 : decode cX8_of 95 = .ok (.aload_n 0, 1) := by decide +kernel
theorem dX8_of_96 : decode cX8_of 96 = .ok (.aload_n 0, 1) := by decide +kernel
theorem dX8_of_97 : decode cX8_of 97 = .ok (.getfield 32, 3) := by decide +kernel
theorem dX8_of_100 : decode cX8_of 100 = .ok (.invokevirtual 144, 3) := by decide +kernel
theorem dX8_of_103 : decode cX8_of 103 = .ok (.ireturn, 1) := by decide +kernel
theorem dX8_of_104 : decode cX8_of 104 = .ok (.aload_n 0, 1) := by decide +kernel
theorem dX8_of_105 : decode cX8_of 105 = .ok (.getfield 7, 3) := by decide +kernel
theorem dX8_of_108 : decode cX8_of 108 = .ok (.iconst 0, 1) := by decide +kernel
theorem dX8_of_109 : decode cX8_of 109 = .ok (.iaload, 1) := by decide +kernel
theorem dX8_of_110 : decode cX8_of 110 = .ok (.aload_n 0, 1) := by decide +kernel
theorem dX8_of_111 : decode cX8_of 111 = .ok (.aload_n 0, 1) := by decide +kernel
theorem dX8_of_112 : decode cX8_of 112 = .ok (.getfield 32, 3) := by decide +kernel
theorem dX8_of_115 : decode cX8_of 115 = .ok (.invokevirtual 76, 3) := by decide +kernel
theorem dX8_of_118 : decode cX8_of 118 = .ok (.isub, 1) := by decide +kernel
theorem dX8_of_119 : decode cX8_of 119 = .ok (.iconst 2, 1) := by decide +kernel
theorem dX8_of_120 : decode cX8_of 120 = .ok (.irem, 1) := by decide +kernel
theorem dX8_of_121 : decode cX8_of 121 = .ok (.ifCond .ne 7, 3) := by decide +kernel
theorem dX8_of_124 : decode cX8_of 124 = .ok (.iconst 2, 1) := by decide +kernel
theorem dX8_of_125 : decode cX8_of 125 = .ok (.goto 4, 3) := by decide +kernel
theorem dX8_of_128 : decode cX8_of 128 = .ok (.iconst 0, 1) := by decide +kernel
theorem dX8_of_129 : decode cX8_of 129 = .ok (.ireturn, 1) := by decide +kernel
theorem dX8_of_130 : decode cX8_of 130 = .ok (.aload_n 0, 1) := by decide +kernel
theorem dX8_of_131 : decode cX8_of 131 = .ok (.aload_n 0, 1) := by decide +kernel
theorem dX8_of_132 : decode cX8_of 132 = .ok (.getfield 32, 3) := by decide +kernel
theorem dX8_of_135 : decode cX8_of 135 = .ok (.invokevirtual 147, 3) := by decide +kernel
theorem dX8_of_138 : decode cX8_of 138 = .ok (.ireturn, 1) := by decide +kernel
theorem dX8_of_139 : decode cX8_of 139 = .ok (.aload_n 0, 1) := by decide +kernel
theorem dX8_of_140 : decode cX8_of 140 = .ok (.aload_n 0, 1) := by decide +kernel
theorem dX8_of_141 : decode cX8_of 141 = .ok (.getfield 35, 3) := by decide +kernel
theorem dX8_of_144 : decode cX8_of 144 = .ok (.aload_n 0, 1) := by decide +kernel
theorem dX8_of_145 : decode cX8_of 145 = .ok (.getfield 32, 3) := by decide +kernel
theorem dX8_of_148 : decode cX8_of 148 = .ok (.invokevirtual 150, 3) := by decide +kernel
theorem dX8_of_151 : decode cX8_of 151 = .ok (.aload_n 0, 1) := by decide +kernel
theorem dX8_of_152 : decode cX8_of 152 = .ok (.aload_n 0, 1) := by decide +kernel
theorem dX8_of_153 : decode cX8_of 153 = .ok (.getfield 35, 3) := by decide +kernel
theorem dX8_of_156 : decode cX8_of 156 = .ok (.invokevirtual 154, 3) := by decide +kernel
theorem dX8_of_159 : decode cX8_of 159 = .ok (.ireturn, 1) := by decide +kernel
theorem dX8_of_160 : decode cX8_of 160 = .ok (.bipush (-2), 2) := by decide +kernel
theorem dX8_of_162 : decode cX8_of 162 = .ok (.ireturn, 1) := by decide +kernel
theorem dX8_image_0 : decode cX8_image 0 = .ok (.aload_n 0, 1) := by decide +kernel
theorem dX8_image_1 : decode cX8_image 1 = .ok (.iconst 0, 1) := by decide +kernel
theorem dX8_image_2 : decode cX8_image 2 = .ok (.putfield 53, 3) := by decide +kernel
theorem dX8_image_5 : decode cX8_image 5 = .ok (.aload_n 0, 1) := by decide +kernel
theorem dX8_image_6 : decode cX8_image 6 = .ok (.iload_n 1, 1) := by decide +kernel
theorem dX8_image_7 : decode cX8_image 7 = .ok (.invokevirtual 135, 3) := by decide +kernel
theorem dX8_image_10 : decode cX8_image 10 = .ok (.ifCond .eq 11, 3) := by decide +kernel
theorem dX8_image_13 : decode cX8_image 13 = .ok (.aload_n 0, 1) := by decide +kernel
theorem dX8_image_14 : decode cX8_image 14 = .ok (.iload_n 3, 1) := by decide +kernel
theorem dX8_image_15 : decode cX8_image 15 = .ok (.invokevirtual 111, 3) := by decide +kernel
theorem dX8_image_18 : decode cX8_image 18 = .ok (.ifCond .ne 5, 3) := by decide +kernel
theorem dX8_image_21 : decode cX8_image 21 = .ok (.iconst (-1), 1) := by decide +kernel
theorem dX8_image_22 : decode cX8_image 22 = .ok (.ireturn, 1) := by decide +kernel
theorem dX8_image_23 : decode cX8_image 23 = .ok (.iload_n 2, 1) := by decide +kernel
theorem dX8_image_24 : decode cX8_image 24 = .ok (.sipush (-999), 3) := by decide +kernel
theorem dX8_image_27 : decode cX8_image 27 = .ok (.sipush 999, 3) := by decide +kernel
theorem dX8_image_30 : decode cX8_image 30 = .ok (.invokestatic 64, 3) := by decide +kernel
theorem dX8_image_33 : decode cX8_image 33 = .ok (.ifCond .ne 6, 3) := by decide +kernel
theorem dX8_image_36 : decode cX8_image 36 = .ok (.bipush (-2), 2) := by decide +kernel
theorem dX8_image_38 : decode cX8_image 38 = .ok (.ireturn, 1) := by decide +kernel
theorem dX8_image_39 : decode cX8_image 39 = .ok (.aload_n 0, 1) := by decide +kernel
theorem dX8_image_40 : decode cX8_image 40 = .ok (.aload_n 0, 1) := by decide +kernel
theorem dX8_image_41 : decode cX8_image 41 = .ok (.getfield 32, 3) := by decide +kernel
theorem dX8_image_44 : decode cX8_image 44 = .ok (.iload_n 1, 1) := by decide +kernel
theorem dX8_image_45 : decode cX8_image 45 = .ok (.invokevirtual 96, 3) := by decide +kernel
theorem dX8_image_48 : decode cX8_image 48 = .ok (.aload_n 0, 1) := by decide +kernel
theorem dX8_image_49 : decode cX8_image 49 = .ok (.aload_n 0, 1) := by decide +kernel
theorem dX8_image_50 : decode cX8_image 50 = .ok (.getfield 32, 3) := by decide +kernel
theorem dX8_image_53 : decode cX8_image 53 = .ok (.iload_n 2, 1) := by decide +kernel
theorem dX8_image_54 : decode cX8_image 54 = .ok (.iload_n 3, 1) := by decide +kernel
theorem dX8_image_55 : decode cX8_image 55 = .ok (.invokevirtual 104, 3) := by decide +kernel
theorem dX8_image_58 : decode cX8_image 58 = .ok (.ireturn, 1) := by decide +kernel
theorem dX8_commuting_0 : decode cX8_commuting 0 = .ok (.aload_n 0, 1) := by decide +kernel
theorem dX8_commuting_1 : decode cX8_commuting 1 = .ok (.iconst 0, 1) := by decide +kernel
theorem dX8_commuting_2 : decode cX8_commuting 2 = .ok (.putfield 53, 3) := by decide +kernel
theorem dX8_commuting_5 : decode cX8_commuting 5 = .ok (.aload_n 0, 1) := by decide +kernel
theorem dX8_commuting_6 : decode cX8_commuting 6 = .ok (.iload_n 1, 1) := by decide +kernel
theorem dX8_commuting_7 : decode cX8_commuting 7 = .ok (.invokevirtual 135, 3) := by decide +kernel
theorem dX8_commuting_10 : decode cX8_commuting 10 = .ok (.ifCond .ne 7, 3) := by decide +kernel
theorem dX8_commuting_13 : decode cX8_commuting 13 = .ok (.ldc2_w 157, 3) := by decide +kernel
theorem dX8_commuting_16 : decode cX8_commuting 16 = .ok (.lreturn, 1) := by decide +kernel
theorem dX8_commuting_17 : decode cX8_commuting 17 = .ok (.aload_n 0, 1) := by decide +kernel
theorem dX8_commuting_18 : decode cX8_commuting 18 = .ok (.aload_n 0, 1) := by decide +kernel
theorem dX8_commuting_19 : decode cX8_commuting 19 = .ok (.getfield 32, 3) := by decide +kernel
theorem dX8_commuting_22 : decode cX8_commuting 22 = .ok (.iload_n 1, 1) := by decide +kernel
theorem dX8_commuting_23 : decode cX8_commuting 23 = .ok (.invokevirtual 96, 3) := by decide +kernel
theorem dX8_commuting_26 : decode cX8_commuting 26 = .ok (.aload_n 0, 1) := by decide +kernel
theorem dX8_commuting_27 : decode cX8_commuting 27 = .ok (.aload_n 0, 1) := by decide +kernel
theorem dX8_commuting_28 : decode cX8_commuting 28 = .ok (.getfield 32, 3) := by decide +kernel
theorem dX8_commuting_31 : decode cX8_commuting 31 = .ok (.invokevirtual 76, 3) := by decide +kernel
theorem dX8_commuting_34 : decode cX8_commuting 34 = .ok (.pop, 1) := by decide +kernel
theorem dX8_commuting_35 : decode cX8_commuting 35 = .ok (.lconst 1, 1) := by decide +kernel
theorem dX8_commuting_36 : decode cX8_commuting 36 = .ok (.lstore_n 2, 1) := by decide +kernel
theorem dX8_commuting_37 : decode cX8_commuting 37 = .ok (.iconst 1, 1) := by decide +kernel
theorem dX8_commuting_38 : decode cX8_commuting 38 = .ok (.istore 4, 2) := by decide +kernel
theorem dX8_commuting_40 : decode cX8_commuting 40 = .ok (.iload 4, 2) := by decide +kernel
theorem dX8_commuting_42 : decode cX8_commuting 42 = .ok (.bipush 17, 2) := by decide +kernel
theorem dX8_commuting_44 : decode cX8_commuting 44 = .ok (.if_icmp .ge 40, 3) := by decide +kernel
theorem dX8_commuting_47 : decode cX8_commuting 47 = .ok (.iconst 1, 1) := by decide +kernel
theorem dX8_commuting_48 : decode cX8_commuting 48 = .ok (.istore 5, 2) := by decide +kernel
theorem dX8_commuting_50 : decode cX8_commuting 50 = .ok (.iload 5, 2) := by decide +kernel
theorem dX8_commuting_52 : decode cX8_commuting 52 = .ok (.aload_n 0, 1) := by decide +kernel
theorem dX8_commuting_53 : decode cX8_commuting 53 = .ok (.getfield 50, 3) := by decide +kernel
theorem dX8_commuting_56 : decode cX8_commuting 56 = .ok (.iload 4, 2) := by decide +kernel
theorem dX8_commuting_58 : decode cX8_commuting 58 = .ok (.iaload, 1) := by decide +kernel
theorem dX8_commuting_59 : decode cX8_commuting 59 = .ok (.if_icmp .gt 19, 3) := by decide +kernel
theorem dX8_commuting_62 : decode cX8_commuting 62 = .ok (.lload_n 2, 1) := by decide +kernel
theorem dX8_commuting_63 : decode cX8_commuting 63 = .ok (.iload 4, 2) := by decide +kernel
theorem dX8_commuting_65 : decode cX8_commuting 65 = .ok (.i2l, 1) := by decide +kernel
theorem dX8_commuting_66 : decode cX8_commuting 66 = .ok (.lmul, 1) := by decide +kernel
theorem dX8_commuting_67 : decode cX8_commuting 67 = .ok (.iload 5, 2) := by decide +kernel
theorem dX8_commuting_69 : decode cX8_commuting 69 = .ok (.i2l, 1) := by decide +kernel
theorem dX8_commuting_70 : decode cX8_commuting 70 = .ok (.lmul, 1) := by decide +kernel
theorem dX8_commuting_71 : decode cX8_commuting 71 = .ok (.lstore_n 2, 1) := by decide +kernel
theorem dX8_commuting_72 : decode cX8_commuting 72 = .ok (.iinc 5 1, 3) := by decide +kernel
theorem dX8_commuting_75 : decode cX8_commuting 75 = .ok (.goto (-25), 3) := by decide +kernel
theorem dX8_commuting_78 : decode cX8_commuting 78 = .ok (.iinc 4 1, 3) := by decide +kernel
theorem dX8_commuting_81 : decode cX8_commuting 81 = .ok (.goto (-41), 3) := by decide +kernel
theorem dX8_commuting_84 : decode cX8_commuting 84 = .ok (.lload_n 2, 1) := by decide +kernel
theorem dX8_commuting_85 : decode cX8_commuting 85 = .ok (.lreturn, 1) := by decide +kernel
theorem dX8_commute_0 : decode cX8_commute 0 = .ok (.aload_n 0, 1) := by decide +kernel
theorem dX8_commute_1 : decode cX8_commute 1 = .ok (.iconst 0, 1) := by decide +kernel
theorem dX8_commute_2 : decode cX8_commute 2 = .ok (.putfield 53, 3) := by decide +kernel
theorem dX8_commute_5 : decode cX8_commute 5 = .ok (.aload_n 0, 1) := by decide +kernel
theorem dX8_commute_6 : decode cX8_commute 6 = .ok (.iload_n 1, 1) := by decide +kernel
theorem dX8_commute_7 : decode cX8_commute 7 = .ok (.invokevirtual 135, 3) := by decide +kernel
theorem dX8_commute_10 : decode cX8_commute 10 = .ok (.ifCond .eq 11, 3) := by decide +kernel
theorem dX8_commute_13 : decode cX8_commute 13 = .ok (.aload_n 0, 1) := by decide +kernel
theorem dX8_commute_14 : decode cX8_commute 14 = .ok (.iload_n 2, 1) := by decide +kernel
theorem dX8_commute_15 : decode cX8_commute 15 = .ok (.invokevirtual 135, 3) := by decide +kernel
theorem dX8_commute_18 : decode cX8_commute 18 = .ok (.ifCond .ne 5, 3) := by decide +kernel
theorem dX8_commute_21 : decode cX8_commute 21 = .ok (.iconst (-1), 1) := by decide +kernel
theorem dX8_commute_22 : decode cX8_commute 22 = .ok (.ireturn, 1) := by decide +kernel
theorem dX8_commute_23 : decode cX8_commute 23 = .ok (.aload_n 0, 1) := by decide +kernel
theorem dX8_commute_24 : decode cX8_commute 24 = .ok (.aload_n 0, 1) := by decide +kernel
theorem dX8_commute_25 : decode cX8_commute 25 = .ok (.getfield 32, 3) := by decide +kernel
theorem dX8_commute_28 : decode cX8_commute 28 = .ok (.iload_n 1, 1) := by decide +kernel
theorem dX8_commute_29 : decode cX8_commute 29 = .ok (.invokevirtual 96, 3) := by decide +kernel
theorem dX8_commute_32 : decode cX8_commute 32 = .ok (.aload_n 0, 1) := by decide +kernel
theorem dX8_commute_33 : decode cX8_commute 33 = .ok (.aload_n 0, 1) := by decide +kernel
theorem dX8_commute_34 : decode cX8_commute 34 = .ok (.getfield 35, 3) := by decide +kernel
theorem dX8_commute_37 : decode cX8_commute 37 = .ok (.iload_n 2, 1) := by decide +kernel
theorem dX8_commute_38 : decode cX8_commute 38 = .ok (.invokevirtual 96, 3) := by decide +kernel
theorem dX8_commute_41 : decode cX8_commute 41 = .ok (.aload_n 0, 1) := by decide +kernel
theorem dX8_commute_42 : decode cX8_commute 42 = .ok (.aload_n 0, 1) := by decide +kernel
theorem dX8_commute_43 : decode cX8_commute 43 = .ok (.getfield 32, 3) := by decide +kernel
theorem dX8_commute_46 : decode cX8_commute 46 = .ok (.aload_n 0, 1) := by decide +kernel
theorem dX8_commute_47 : decode cX8_commute 47 = .ok (.getfield 35, 3) := by decide +kernel
theorem dX8_commute_50 : decode cX8_commute 50 = .ok (.invokevirtual 128, 3) := by decide +kernel
theorem dX8_commute_53 : decode cX8_commute 53 = .ok (.ifCond .eq 7, 3) := by decide +kernel
theorem dX8_commute_56 : decode cX8_commute 56 = .ok (.iconst 1, 1) := by decide +kernel
theorem dX8_commute_57 : decode cX8_commute 57 = .ok (.goto 4, 3) := by decide +kernel
theorem dX8_commute_60 : decode cX8_commute 60 = .ok (.iconst 0, 1) := by decide +kernel
theorem dX8_commute_61 : decode cX8_commute 61 = .ok (.ireturn, 1) := by decide +kernel
theorem dX8_inPlace_0 : decode cX8_inPlace 0 = .ok (.iconst 0, 1) := by decide +kernel
theorem dX8_inPlace_1 : decode cX8_inPlace 1 = .ok (.istore_n 1, 1) := by decide +kernel
theorem dX8_inPlace_2 : decode cX8_inPlace 2 = .ok (.iconst 0, 1) := by decide +kernel
theorem dX8_inPlace_3 : decode cX8_inPlace 3 = .ok (.istore_n 2, 1) := by decide +kernel
theorem dX8_inPlace_4 : decode cX8_inPlace 4 = .ok (.iload_n 2, 1) := by decide +kernel
theorem dX8_inPlace_5 : decode cX8_inPlace 5 = .ok (.aload_n 0, 1) := by decide +kernel
theorem dX8_inPlace_6 : decode cX8_inPlace 6 = .ok (.getfield 7, 3) := by decide +kernel
theorem dX8_inPlace_9 : decode cX8_inPlace 9 = .ok (.iconst 0, 1) := by decide +kernel
theorem dX8_inPlace_10 : decode cX8_inPlace 10 = .ok (.iaload, 1) := by decide +kernel
theorem dX8_inPlace_11 : decode cX8_inPlace 11 = .ok (.if_icmp .ge 31, 3) := by decide +kernel
theorem dX8_inPlace_14 : decode cX8_inPlace 14 = .ok (.iload_n 1, 1) := by decide +kernel
theorem dX8_inPlace_15 : decode cX8_inPlace 15 = .ok (.aload_n 0, 1) := by decide +kernel
theorem dX8_inPlace_16 : decode cX8_inPlace 16 = .ok (.getfield 7, 3) := by decide +kernel
theorem dX8_inPlace_19 : decode cX8_inPlace 19 = .ok (.iconst 2, 1) := by decide +kernel
theorem dX8_inPlace_20 : decode cX8_inPlace 20 = .ok (.iload_n 2, 1) := by decide +kernel
theorem dX8_inPlace_21 : decode cX8_inPlace 21 = .ok (.iadd, 1) := by decide +kernel
theorem dX8_inPlace_22 : decode cX8_inPlace 22 = .ok (.iaload, 1) := by decide +kernel
theorem dX8_inPlace_23 : decode cX8_inPlace 23 = .ok (.iload_n 2, 1) := by decide +kernel
theorem dX8_inPlace_24 : decode cX8_inPlace 24 = .ok (.if_icmp .ne 9, 3) := by decide +kernel
theorem dX8_inPlace_27 : decode cX8_inPlace 27 = .ok (.iconst 1, 1) := by decide +kernel
theorem dX8_inPlace_28 : decode cX8_inPlace 28 = .ok (.iload_n 2, 1) := by decide +kernel
theorem dX8_inPlace_29 : decode cX8_inPlace 29 = .ok (.ishl, 1) := by decide +kernel
theorem dX8_inPlace_30 : decode cX8_inPlace 30 = .ok (.goto 4, 3) := by decide +kernel
theorem dX8_inPlace_33 : decode cX8_inPlace 33 = .ok (.iconst 0, 1) := by decide +kernel
theorem dX8_inPlace_34 : decode cX8_inPlace 34 = .ok (.ior, 1) := by decide +kernel
theorem dX8_inPlace_35 : decode cX8_inPlace 35 = .ok (.istore_n 1, 1) := by decide +kernel
theorem dX8_inPlace_36 : decode cX8_inPlace 36 = .ok (.iinc 2 1, 3) := by decide +kernel
theorem dX8_inPlace_39 : decode cX8_inPlace 39 = .ok (.goto (-35), 3) := by decide +kernel
theorem dX8_inPlace_42 : decode cX8_inPlace 42 = .ok (.iload_n 1, 1) := by decide +kernel
theorem dX8_inPlace_43 : decode cX8_inPlace 43 = .ok (.ireturn, 1) := by decide +kernel
theorem dX8_isInOrder_0 : decode cX8_isInOrder 0 = .ok (.aload_n 0, 1) := by decide +kernel
theorem dX8_isInOrder_1 : decode cX8_isInOrder 1 = .ok (.invokevirtual 159, 3) := by decide +kernel
theorem dX8_isInOrder_4 : decode cX8_isInOrder 4 = .ok (.iconst 1, 1) := by decide +kernel
theorem dX8_isInOrder_5 : decode cX8_isInOrder 5 = .ok (.aload_n 0, 1) := by decide +kernel
theorem dX8_isInOrder_6 : decode cX8_isInOrder 6 = .ok (.getfield 7, 3) := by decide +kernel
theorem dX8_isInOrder_9 : decode cX8_isInOrder 9 = .ok (.iconst 0, 1) := by decide +kernel
theorem dX8_isInOrder_10 : decode cX8_isInOrder 10 = .ok (.iaload, 1) := by decide +kernel
theorem dX8_isInOrder_11 : decode cX8_isInOrder 11 = .ok (.ishl, 1) := by decide +kernel
theorem dX8_isInOrder_12 : decode cX8_isInOrder 12 = .ok (.iconst 1, 1) := by decide +kernel
theorem dX8_isInOrder_13 : decode cX8_isInOrder 13 = .ok (.isub, 1) := by decide +kernel
theorem dX8_isInOrder_14 : decode cX8_isInOrder 14 = .ok (.if_icmp .ne 7, 3) := by decide +kernel
theorem dX8_isInOrder_17 : decode cX8_isInOrder 17 = .ok (.iconst 1, 1) := by decide +kernel
theorem dX8_isInOrder_18 : decode cX8_isInOrder 18 = .ok (.goto 4, 3) := by decide +kernel
theorem dX8_isInOrder_21 : decode cX8_isInOrder 21 = .ok (.iconst 0, 1) := by decide +kernel
theorem dX8_isInOrder_22 : decode cX8_isInOrder 22 = .ok (.ireturn, 1) := by decide +kernel
theorem dX8_count_0 : decode cX8_count 0 = .ok (.aload_n 0, 1) := by decide +kernel
theorem dX8_count_1 : decode cX8_count 1 = .ok (.iconst 0, 1) := by decide +kernel
theorem dX8_count_2 : decode cX8_count 2 = .ok (.putfield 53, 3) := by decide +kernel
theorem dX8_count_5 : decode cX8_count 5 = .ok (.iload_n 1, 1) := by decide +kernel
theorem dX8_count_6 : decode cX8_count 6 = .ok (.tableswitch 89 0 6 #[42, 49, 56, 61, 74, 79, 84], 42) := by decide +kernel
theorem dX8_count_48 : decode cX8_count 48 = .ok (.aload_n 0, 1) := by decide +kernel
theorem dX8_count_49 : decode cX8_count 49 = .ok (.getfield 7, 3) := by decide +kernel
theorem dX8_count_52 : decode cX8_count 52 = .ok (.iconst 0, 1) := by decide +kernel
theorem dX8_count_53 : decode cX8_count 53 = .ok (.iaload, 1) := by decide +kernel
theorem dX8_count_54 : decode cX8_count 54 = .ok (.ireturn, 1) := by decide +kernel
theorem dX8_count_55 : decode cX8_count 55 = .ok (.aload_n 0, 1) := by decide +kernel
theorem dX8_count_56 : decode cX8_count 56 = .ok (.getfield 7, 3) := by decide +kernel
theorem dX8_count_59 : decode cX8_count 59 = .ok (.iconst 1, 1) := by decide +kernel
theorem dX8_count_60 : decode cX8_count 60 = .ok (.iaload, 1) := by decide +kernel
theorem dX8_count_61 : decode cX8_count 61 = .ok (.ireturn, 1) := by decide +kernel
theorem dX8_count_62 : decode cX8_count 62 = .ok (.aload_n 0, 1) := by decide +kernel
theorem dX8_count_63 : decode cX8_count 63 = .ok (.invokevirtual 159, 3) := by decide +kernel
theorem dX8_count_66 : decode cX8_count 66 = .ok (.ireturn, 1) := by decide +kernel
theorem dX8_count_67 : decode cX8_count 67 = .ok (.aload_n 0, 1) := by decide +kernel
theorem dX8_count_68 : decode cX8_count 68 = .ok (.invokevirtual 162, 3) := by decide +kernel
theorem dX8_count_71 : decode cX8_count 71 = .ok (.ifCond .eq 7, 3) := by decide +kernel
theorem dX8_count_74 : decode cX8_count 74 = .ok (.iconst 1, 1) := by decide +kernel
theorem dX8_count_75 : decode cX8_count 75 = .ok (.goto 4, 3) := by decide +kernel
theorem dX8_count_78 : decode cX8_count 78 = .ok (.iconst 0, 1) := by decide +kernel
theorem dX8_count_79 : decode cX8_count 79 = .ok (.ireturn, 1) := by decide +kernel
theorem dX8_count_80 : decode cX8_count 80 = .ok (.aload_n 0, 1) := by decide +kernel
theorem dX8_count_81 : decode cX8_count 81 = .ok (.invokevirtual 125, 3) := by decide +kernel
theorem dX8_count_84 : decode cX8_count 84 = .ok (.ireturn, 1) := by decide +kernel
theorem dX8_count_85 : decode cX8_count 85 = .ok (.aload_n 0, 1) := by decide +kernel
theorem dX8_count_86 : decode cX8_count 86 = .ok (.getfield 90, 3) := by decide +kernel
theorem dX8_count_89 : decode cX8_count 89 = .ok (.ireturn, 1) := by decide +kernel
theorem dX8_count_90 : decode cX8_count 90 = .ok (.aload_n 0, 1) := by decide +kernel
theorem dX8_count_91 : decode cX8_count 91 = .ok (.getfield 61, 3) := by decide +kernel
theorem dX8_count_94 : decode cX8_count 94 = .ok (.ireturn, 1) := by decide +kernel
theorem dX8_count_95 : decode cX8_count 95 = .ok (.bipush (-2), 2) := by decide +kernel
theorem dX8_count_97 : decode cX8_count 97 = .ok (.ireturn, 1) := by decide +kernel
theorem dX8_spread_0 : decode cX8_spread 0 = .ok (.aload_n 0, 1) := by decide +kernel
theorem dX8_spread_1 : decode cX8_spread 1 = .ok (.iconst 0, 1) := by decide +kernel
theorem dX8_spread_2 : decode cX8_spread 2 = .ok (.putfield 53, 3) := by decide +kernel
theorem dX8_spread_5 : decode cX8_spread 5 = .ok (.dconst 0, 1) := by decide +kernel
theorem dX8_spread_6 : decode cX8_spread 6 = .ok (.dstore_n 1, 1) := by decide +kernel
theorem dX8_spread_7 : decode cX8_spread 7 = .ok (.iconst 0, 1) := by decide +kernel
theorem dX8_spread_8 : decode cX8_spread 8 = .ok (.istore_n 3, 1) := by decide +kernel
theorem dX8_spread_9 : decode cX8_spread 9 = .ok (.iload_n 3, 1) := by decide +kernel
theorem dX8_spread_10 : decode cX8_spread 10 = .ok (.aload_n 0, 1) := by decide +kernel
theorem dX8_spread_11 : decode cX8_spread 11 = .ok (.getfield 7, 3) := by decide +kernel
theorem dX8_spread_14 : decode cX8_spread 14 = .ok (.iconst 0, 1) := by decide +kernel
theorem dX8_spread_15 : decode cX8_spread 15 = .ok (.iaload, 1) := by decide +kernel
theorem dX8_spread_16 : decode cX8_spread 16 = .ok (.if_icmp .ge 38, 3) := by decide +kernel
theorem dX8_spread_19 : decode cX8_spread 19 = .ok (.aload_n 0, 1) := by decide +kernel
theorem dX8_spread_20 : decode cX8_spread 20 = .ok (.getfield 7, 3) := by decide +kernel
theorem dX8_spread_23 : decode cX8_spread 23 = .ok (.iconst 2, 1) := by decide +kernel
theorem dX8_spread_24 : decode cX8_spread 24 = .ok (.iload_n 3, 1) := by decide +kernel
theorem dX8_spread_25 : decode cX8_spread 25 = .ok (.iadd, 1) := by decide +kernel
theorem dX8_spread_26 : decode cX8_spread 26 = .ok (.iaload, 1) := by decide +kernel
theorem dX8_spread_27 : decode cX8_spread 27 = .ok (.iload_n 3, 1) := by decide +kernel
theorem dX8_spread_28 : decode cX8_spread 28 = .ok (.isub, 1) := by decide +kernel
theorem dX8_spread_29 : decode cX8_spread 29 = .ok (.istore 4, 2) := by decide +kernel
theorem dX8_spread_31 : decode cX8_spread 31 = .ok (.dload_n 1, 1) := by decide +kernel
theorem dX8_spread_32 : decode cX8_spread 32 = .ok (.iload 4, 2) := by decide +kernel
theorem dX8_spread_34 : decode cX8_spread 34 = .ok (.ifCond .ge 9, 3) := by decide +kernel
theorem dX8_spread_37 : decode cX8_spread 37 = .ok (.iload 4, 2) := by decide +kernel
theorem dX8_spread_39 : decode cX8_spread 39 = .ok (.ineg, 1) := by decide +kernel
theorem dX8_spread_40 : decode cX8_spread 40 = .ok (.goto 5, 3) := by decide +kernel
theorem dX8_spread_43 : decode cX8_spread 43 = .ok (.iload 4, 2) := by decide +kernel
theorem dX8_spread_45 : decode cX8_spread 45 = .ok (.i2d, 1) := by decide +kernel
theorem dX8_spread_46 : decode cX8_spread 46 = .ok (.dadd, 1) := by decide +kernel
theorem dX8_spread_47 : decode cX8_spread 47 = .ok (.dstore_n 1, 1) := by decide +kernel
theorem dX8_spread_48 : decode cX8_spread 48 = .ok (.iinc 3 1, 3) := by decide +kernel
theorem dX8_spread_51 : decode cX8_spread 51 = .ok (.goto (-42), 3) := by decide +kernel
theorem dX8_spread_54 : decode cX8_spread 54 = .ok (.dload_n 1, 1) := by decide +kernel
theorem dX8_spread_55 : decode cX8_spread 55 = .ok (.aload_n 0, 1) := by decide +kernel
theorem dX8_spread_56 : decode cX8_spread 56 = .ok (.getfield 7, 3) := by decide +kernel
theorem dX8_spread_59 : decode cX8_spread 59 = .ok (.iconst 0, 1) := by decide +kernel
theorem dX8_spread_60 : decode cX8_spread 60 = .ok (.iaload, 1) := by decide +kernel
theorem dX8_spread_61 : decode cX8_spread 61 = .ok (.i2d, 1) := by decide +kernel
theorem dX8_spread_62 : decode cX8_spread 62 = .ok (.ddiv, 1) := by decide +kernel
theorem dX8_spread_63 : decode cX8_spread 63 = .ok (.invokestatic 166, 3) := by decide +kernel
theorem dX8_spread_66 : decode cX8_spread 66 = .ok (.lreturn, 1) := by decide +kernel
theorem dX8_share_0 : decode cX8_share 0 = .ok (.aload_n 0, 1) := by decide +kernel
theorem dX8_share_1 : decode cX8_share 1 = .ok (.iconst 0, 1) := by decide +kernel
theorem dX8_share_2 : decode cX8_share 2 = .ok (.putfield 53, 3) := by decide +kernel
theorem dX8_share_5 : decode cX8_share 5 = .ok (.iconst 0, 1) := by decide +kernel
theorem dX8_share_6 : decode cX8_share 6 = .ok (.istore_n 1, 1) := by decide +kernel
theorem dX8_share_7 : decode cX8_share 7 = .ok (.iconst 0, 1) := by decide +kernel
theorem dX8_share_8 : decode cX8_share 8 = .ok (.istore_n 2, 1) := by decide +kernel
theorem dX8_share_9 : decode cX8_share 9 = .ok (.iload_n 2, 1) := by decide +kernel
theorem dX8_share_10 : decode cX8_share 10 = .ok (.aload_n 0, 1) := by decide +kernel
theorem dX8_share_11 : decode cX8_share 11 = .ok (.getfield 7, 3) := by decide +kernel
theorem dX8_share_14 : decode cX8_share 14 = .ok (.iconst 0, 1) := by decide +kernel
theorem dX8_share_15 : decode cX8_share 15 = .ok (.iaload, 1) := by decide +kernel
theorem dX8_share_16 : decode cX8_share 16 = .ok (.if_icmp .ge 29, 3) := by decide +kernel
theorem dX8_share_19 : decode cX8_share 19 = .ok (.iload_n 1, 1) := by decide +kernel
theorem dX8_share_20 : decode cX8_share 20 = .ok (.aload_n 0, 1) := by decide +kernel
theorem dX8_share_21 : decode cX8_share 21 = .ok (.getfield 7, 3) := by decide +kernel
theorem dX8_share_24 : decode cX8_share 24 = .ok (.iconst 2, 1) := by decide +kernel
theorem dX8_share_25 : decode cX8_share 25 = .ok (.iload_n 2, 1) := by decide +kernel
theorem dX8_share_26 : decode cX8_share 26 = .ok (.iadd, 1) := by decide +kernel
theorem dX8_share_27 : decode cX8_share 27 = .ok (.iaload, 1) := by decide +kernel
theorem dX8_share_28 : decode cX8_share 28 = .ok (.iload_n 2, 1) := by decide +kernel
theorem dX8_share_29 : decode cX8_share 29 = .ok (.if_icmp .ne 7, 3) := by decide +kernel
theorem dX8_share_32 : decode cX8_share 32 = .ok (.iconst 1, 1) := by decide +kernel
theorem dX8_share_33 : decode cX8_share 33 = .ok (.goto 4, 3) := by decide +kernel
theorem dX8_share_36 : decode cX8_share 36 = .ok (.iconst 0, 1) := by decide +kernel
theorem dX8_share_37 : decode cX8_share 37 = .ok (.iadd, 1) := by decide +kernel
theorem dX8_share_38 : decode cX8_share 38 = .ok (.istore_n 1, 1) := by decide +kernel
theorem dX8_share_39 : decode cX8_share 39 = .ok (.iinc 2 1, 3) := by decide +kernel
theorem dX8_share_42 : decode cX8_share 42 = .ok (.goto (-33), 3) := by decide +kernel
theorem dX8_share_45 : decode cX8_share 45 = .ok (.iload_n 1, 1) := by decide +kernel
theorem dX8_share_46 : decode cX8_share 46 = .ok (.i2f, 1) := by decide +kernel
theorem dX8_share_47 : decode cX8_share 47 = .ok (.aload_n 0, 1) := by decide +kernel
theorem dX8_share_48 : decode cX8_share 48 = .ok (.getfield 7, 3) := by decide +kernel
theorem dX8_share_51 : decode cX8_share 51 = .ok (.iconst 0, 1) := by decide +kernel
theorem dX8_share_52 : decode cX8_share 52 = .ok (.iaload, 1) := by decide +kernel
theorem dX8_share_53 : decode cX8_share 53 = .ok (.i2f, 1) := by decide +kernel
theorem dX8_share_54 : decode cX8_share 54 = .ok (.fdiv, 1) := by decide +kernel
theorem dX8_share_55 : decode cX8_share 55 = .ok (.invokestatic 172, 3) := by decide +kernel
theorem dX8_share_58 : decode cX8_share 58 = .ok (.ireturn, 1) := by decide +kernel
theorem dX8_laysByCut_0 : decode cX8_laysByCut 0 = .ok (.aload_n 0, 1) := by decide +kernel
theorem dX8_laysByCut_1 : decode cX8_laysByCut 1 = .ok (.aload_n 0, 1) := by decide +kernel
theorem dX8_laysByCut_2 : decode cX8_laysByCut 2 = .ok (.getfield 32, 3) := by decide +kernel
theorem dX8_laysByCut_5 : decode cX8_laysByCut 5 = .ok (.iload_n 2, 1) := by decide +kernel
theorem dX8_laysByCut_6 : decode cX8_laysByCut 6 = .ok (.invokevirtual 114, 3) := by decide +kernel
theorem dX8_laysByCut_9 : decode cX8_laysByCut 9 = .ok (.aload_n 0, 1) := by decide +kernel
theorem dX8_laysByCut_10 : decode cX8_laysByCut 10 = .ok (.aload_n 0, 1) := by decide +kernel
theorem dX8_laysByCut_11 : decode cX8_laysByCut 11 = .ok (.getfield 35, 3) := by decide +kernel
theorem dX8_laysByCut_14 : decode cX8_laysByCut 14 = .ok (.aload_n 0, 1) := by decide +kernel
theorem dX8_laysByCut_15 : decode cX8_laysByCut 15 = .ok (.getfield 32, 3) := by decide +kernel
theorem dX8_laysByCut_18 : decode cX8_laysByCut 18 = .ok (.invokevirtual 150, 3) := by decide +kernel
theorem dX8_laysByCut_21 : decode cX8_laysByCut 21 = .ok (.aload_n 0, 1) := by decide +kernel
theorem dX8_laysByCut_22 : decode cX8_laysByCut 22 = .ok (.aload_n 0, 1) := by decide +kernel
theorem dX8_laysByCut_23 : decode cX8_laysByCut 23 = .ok (.getfield 38, 3) := by decide +kernel
theorem dX8_laysByCut_26 : decode cX8_laysByCut 26 = .ok (.iload_n 1, 1) := by decide +kernel
theorem dX8_laysByCut_27 : decode cX8_laysByCut 27 = .ok (.invokevirtual 96, 3) := by decide +kernel
theorem dX8_laysByCut_30 : decode cX8_laysByCut 30 = .ok (.iconst 0, 1) := by decide +kernel
theorem dX8_laysByCut_31 : decode cX8_laysByCut 31 = .ok (.istore_n 3, 1) := by decide +kernel
theorem dX8_laysByCut_32 : decode cX8_laysByCut 32 = .ok (.iload_n 3, 1) := by decide +kernel
theorem dX8_laysByCut_33 : decode cX8_laysByCut 33 = .ok (.aload_n 0, 1) := by decide +kernel
theorem dX8_laysByCut_34 : decode cX8_laysByCut 34 = .ok (.getfield 7, 3) := by decide +kernel
theorem dX8_laysByCut_37 : decode cX8_laysByCut 37 = .ok (.iconst 0, 1) := by decide +kernel
theorem dX8_laysByCut_38 : decode cX8_laysByCut 38 = .ok (.iaload, 1) := by decide +kernel
theorem dX8_laysByCut_39 : decode cX8_laysByCut 39 = .ok (.if_icmp .ge 31, 3) := by decide +kernel
theorem dX8_laysByCut_42 : decode cX8_laysByCut 42 = .ok (.aload_n 0, 1) := by decide +kernel
theorem dX8_laysByCut_43 : decode cX8_laysByCut 43 = .ok (.getfield 44, 3) := by decide +kernel
theorem dX8_laysByCut_46 : decode cX8_laysByCut 46 = .ok (.iload_n 3, 1) := by decide +kernel
theorem dX8_laysByCut_47 : decode cX8_laysByCut 47 = .ok (.aload_n 0, 1) := by decide +kernel
theorem dX8_laysByCut_48 : decode cX8_laysByCut 48 = .ok (.getfield 32, 3) := by decide +kernel
theorem dX8_laysByCut_51 : decode cX8_laysByCut 51 = .ok (.aload_n 0, 1) := by decide +kernel
theorem dX8_laysByCut_52 : decode cX8_laysByCut 52 = .ok (.getfield 38, 3) := by decide +kernel
theorem dX8_laysByCut_55 : decode cX8_laysByCut 55 = .ok (.aload_n 0, 1) := by decide +kernel
theorem dX8_laysByCut_56 : decode cX8_laysByCut 56 = .ok (.getfield 35, 3) := by decide +kernel
theorem dX8_laysByCut_59 : decode cX8_laysByCut 59 = .ok (.iload_n 3, 1) := by decide +kernel
theorem dX8_laysByCut_60 : decode cX8_laysByCut 60 = .ok (.iaload, 1) := by decide +kernel
theorem dX8_laysByCut_61 : decode cX8_laysByCut 61 = .ok (.iaload, 1) := by decide +kernel
theorem dX8_laysByCut_62 : decode cX8_laysByCut 62 = .ok (.iaload, 1) := by decide +kernel
theorem dX8_laysByCut_63 : decode cX8_laysByCut 63 = .ok (.iastore, 1) := by decide +kernel
theorem dX8_laysByCut_64 : decode cX8_laysByCut 64 = .ok (.iinc 3 1, 3) := by decide +kernel
theorem dX8_laysByCut_67 : decode cX8_laysByCut 67 = .ok (.goto (-35), 3) := by decide +kernel
theorem dX8_laysByCut_70 : decode cX8_laysByCut 70 = .ok (.return_, 1) := by decide +kernel
theorem dX8_byCut_0 : decode cX8_byCut 0 = .ok (.aload_n 0, 1) := by decide +kernel
theorem dX8_byCut_1 : decode cX8_byCut 1 = .ok (.iconst 0, 1) := by decide +kernel
theorem dX8_byCut_2 : decode cX8_byCut 2 = .ok (.putfield 53, 3) := by decide +kernel
theorem dX8_byCut_5 : decode cX8_byCut 5 = .ok (.aload_n 0, 1) := by decide +kernel
theorem dX8_byCut_6 : decode cX8_byCut 6 = .ok (.iload_n 1, 1) := by decide +kernel
theorem dX8_byCut_7 : decode cX8_byCut 7 = .ok (.invokevirtual 68, 3) := by decide +kernel
theorem dX8_byCut_10 : decode cX8_byCut 10 = .ok (.ifCond .eq 11, 3) := by decide +kernel
theorem dX8_byCut_13 : decode cX8_byCut 13 = .ok (.aload_n 0, 1) := by decide +kernel
theorem dX8_byCut_14 : decode cX8_byCut 14 = .ok (.iload_n 3, 1) := by decide +kernel
theorem dX8_byCut_15 : decode cX8_byCut 15 = .ok (.invokevirtual 111, 3) := by decide +kernel
theorem dX8_byCut_18 : decode cX8_byCut 18 = .ok (.ifCond .ne 5, 3) := by decide +kernel
theorem dX8_byCut_21 : decode cX8_byCut 21 = .ok (.iconst (-1), 1) := by decide +kernel
theorem dX8_byCut_22 : decode cX8_byCut 22 = .ok (.ireturn, 1) := by decide +kernel
theorem dX8_byCut_23 : decode cX8_byCut 23 = .ok (.aload_n 0, 1) := by decide +kernel
theorem dX8_byCut_24 : decode cX8_byCut 24 = .ok (.iload_n 2, 1) := by decide +kernel
theorem dX8_byCut_25 : decode cX8_byCut 25 = .ok (.invokevirtual 111, 3) := by decide +kernel
theorem dX8_byCut_28 : decode cX8_byCut 28 = .ok (.ifCond .ne 6, 3) := by decide +kernel
theorem dX8_byCut_31 : decode cX8_byCut 31 = .ok (.bipush (-2), 2) := by decide +kernel
theorem dX8_byCut_33 : decode cX8_byCut 33 = .ok (.ireturn, 1) := by decide +kernel
theorem dX8_byCut_34 : decode cX8_byCut 34 = .ok (.aload_n 0, 1) := by decide +kernel
theorem dX8_byCut_35 : decode cX8_byCut 35 = .ok (.iload_n 1, 1) := by decide +kernel
theorem dX8_byCut_36 : decode cX8_byCut 36 = .ok (.iload_n 2, 1) := by decide +kernel
theorem dX8_byCut_37 : decode cX8_byCut 37 = .ok (.invokevirtual 178, 3) := by decide +kernel
theorem dX8_byCut_40 : decode cX8_byCut 40 = .ok (.aload_n 0, 1) := by decide +kernel
theorem dX8_byCut_41 : decode cX8_byCut 41 = .ok (.getfield 44, 3) := by decide +kernel
theorem dX8_byCut_44 : decode cX8_byCut 44 = .ok (.iload_n 3, 1) := by decide +kernel
theorem dX8_byCut_45 : decode cX8_byCut 45 = .ok (.iaload, 1) := by decide +kernel
theorem dX8_byCut_46 : decode cX8_byCut 46 = .ok (.ireturn, 1) := by decide +kernel
theorem dX8_becomes_0 : decode cX8_becomes 0 = .ok (.aload_n 0, 1) := by decide +kernel
theorem dX8_becomes_1 : decode cX8_becomes 1 = .ok (.iconst 0, 1) := by decide +kernel
theorem dX8_becomes_2 : decode cX8_becomes 2 = .ok (.putfield 53, 3) := by decide +kernel
theorem dX8_becomes_5 : decode cX8_becomes 5 = .ok (.aload_n 0, 1) := by decide +kernel
theorem dX8_becomes_6 : decode cX8_becomes 6 = .ok (.iload_n 1, 1) := by decide +kernel
theorem dX8_becomes_7 : decode cX8_becomes 7 = .ok (.invokevirtual 68, 3) := by decide +kernel
theorem dX8_becomes_10 : decode cX8_becomes 10 = .ok (.ifCond .ne 5, 3) := by decide +kernel
theorem dX8_becomes_13 : decode cX8_becomes 13 = .ok (.iconst (-1), 1) := by decide +kernel
theorem dX8_becomes_14 : decode cX8_becomes 14 = .ok (.ireturn, 1) := by decide +kernel
theorem dX8_becomes_15 : decode cX8_becomes 15 = .ok (.aload_n 0, 1) := by decide +kernel
theorem dX8_becomes_16 : decode cX8_becomes 16 = .ok (.iload_n 2, 1) := by decide +kernel
theorem dX8_becomes_17 : decode cX8_becomes 17 = .ok (.invokevirtual 111, 3) := by decide +kernel
theorem dX8_becomes_20 : decode cX8_becomes 20 = .ok (.ifCond .ne 6, 3) := by decide +kernel
theorem dX8_becomes_23 : decode cX8_becomes 23 = .ok (.bipush (-2), 2) := by decide +kernel
theorem dX8_becomes_25 : decode cX8_becomes 25 = .ok (.ireturn, 1) := by decide +kernel
theorem dX8_becomes_26 : decode cX8_becomes 26 = .ok (.aload_n 0, 1) := by decide +kernel
theorem dX8_becomes_27 : decode cX8_becomes 27 = .ok (.iload_n 1, 1) := by decide +kernel
theorem dX8_becomes_28 : decode cX8_becomes 28 = .ok (.iload_n 2, 1) := by decide +kernel
theorem dX8_becomes_29 : decode cX8_becomes 29 = .ok (.invokevirtual 178, 3) := by decide +kernel
theorem dX8_becomes_32 : decode cX8_becomes 32 = .ok (.aload_n 0, 1) := by decide +kernel
theorem dX8_becomes_33 : decode cX8_becomes 33 = .ok (.aload_n 0, 1) := by decide +kernel
theorem dX8_becomes_34 : decode cX8_becomes 34 = .ok (.getfield 44, 3) := by decide +kernel
theorem dX8_becomes_37 : decode cX8_becomes 37 = .ok (.invokevirtual 154, 3) := by decide +kernel
theorem dX8_becomes_40 : decode cX8_becomes 40 = .ok (.ireturn, 1) := by decide +kernel
theorem dX8_ordersIn_0 : decode cX8_ordersIn 0 = .ok (.aload_n 0, 1) := by decide +kernel
theorem dX8_ordersIn_1 : decode cX8_ordersIn 1 = .ok (.iconst 0, 1) := by decide +kernel
theorem dX8_ordersIn_2 : decode cX8_ordersIn 2 = .ok (.putfield 53, 3) := by decide +kernel
theorem dX8_ordersIn_5 : decode cX8_ordersIn 5 = .ok (.aload_n 0, 1) := by decide +kernel
theorem dX8_ordersIn_6 : decode cX8_ordersIn 6 = .ok (.iload_n 1, 1) := by decide +kernel
theorem dX8_ordersIn_7 : decode cX8_ordersIn 7 = .ok (.invokevirtual 68, 3) := by decide +kernel
theorem dX8_ordersIn_10 : decode cX8_ordersIn 10 = .ok (.ifCond .ne 5, 3) := by decide +kernel
theorem dX8_ordersIn_13 : decode cX8_ordersIn 13 = .ok (.iconst (-1), 1) := by decide +kernel
theorem dX8_ordersIn_14 : decode cX8_ordersIn 14 = .ok (.ireturn, 1) := by decide +kernel
theorem dX8_ordersIn_15 : decode cX8_ordersIn 15 = .ok (.aload_n 0, 1) := by decide +kernel
theorem dX8_ordersIn_16 : decode cX8_ordersIn 16 = .ok (.aload_n 0, 1) := by decide +kernel
theorem dX8_ordersIn_17 : decode cX8_ordersIn 17 = .ok (.getfield 32, 3) := by decide +kernel
theorem dX8_ordersIn_20 : decode cX8_ordersIn 20 = .ok (.iload_n 1, 1) := by decide +kernel
theorem dX8_ordersIn_21 : decode cX8_ordersIn 21 = .ok (.invokevirtual 96, 3) := by decide +kernel
theorem dX8_ordersIn_24 : decode cX8_ordersIn 24 = .ok (.iconst 0, 1) := by decide +kernel
theorem dX8_ordersIn_25 : decode cX8_ordersIn 25 = .ok (.istore_n 2, 1) := by decide +kernel
theorem dX8_ordersIn_26 : decode cX8_ordersIn 26 = .ok (.iload_n 2, 1) := by decide +kernel
theorem dX8_ordersIn_27 : decode cX8_ordersIn 27 = .ok (.sipush 200, 3) := by decide +kernel
theorem dX8_ordersIn_30 : decode cX8_ordersIn 30 = .ok (.if_icmp .ge 70, 3) := by decide +kernel
theorem dX8_ordersIn_33 : decode cX8_ordersIn 33 = .ok (.iconst 1, 1) := by decide +kernel
theorem dX8_ordersIn_34 : decode cX8_ordersIn 34 = .ok (.istore_n 3, 1) := by decide +kernel
theorem dX8_ordersIn_35 : decode cX8_ordersIn 35 = .ok (.iconst 0, 1) := by decide +kernel
theorem dX8_ordersIn_36 : decode cX8_ordersIn 36 = .ok (.istore 4, 2) := by decide +kernel
theorem dX8_ordersIn_38 : decode cX8_ordersIn 38 = .ok (.iload 4, 2) := by decide +kernel
theorem dX8_ordersIn_40 : decode cX8_ordersIn 40 = .ok (.aload_n 0, 1) := by decide +kernel
theorem dX8_ordersIn_41 : decode cX8_ordersIn 41 = .ok (.getfield 7, 3) := by decide +kernel
theorem dX8_ordersIn_44 : decode cX8_ordersIn 44 = .ok (.iconst 0, 1) := by decide +kernel
theorem dX8_ordersIn_45 : decode cX8_ordersIn 45 = .ok (.iaload, 1) := by decide +kernel
theorem dX8_ordersIn_46 : decode cX8_ordersIn 46 = .ok (.if_icmp .ge 42, 3) := by decide +kernel
theorem dX8_ordersIn_49 : decode cX8_ordersIn 49 = .ok (.iload_n 3, 1) := by decide +kernel
theorem dX8_ordersIn_50 : decode cX8_ordersIn 50 = .ok (.ifCond .eq 30, 3) := by decide +kernel
theorem dX8_ordersIn_53 : decode cX8_ordersIn 53 = .ok (.aload_n 0, 1) := by decide +kernel
theorem dX8_ordersIn_54 : decode cX8_ordersIn 54 = .ok (.aload_n 0, 1) := by decide +kernel
theorem dX8_ordersIn_55 : decode cX8_ordersIn 55 = .ok (.getfield 32, 3) := by decide +kernel
theorem dX8_ordersIn_58 : decode cX8_ordersIn 58 = .ok (.iload_n 2, 1) := by decide +kernel
theorem dX8_ordersIn_59 : decode cX8_ordersIn 59 = .ok (.iload 4, 2) := by decide +kernel
theorem dX8_ordersIn_61 : decode cX8_ordersIn 61 = .ok (.invokevirtual 104, 3) := by decide +kernel
theorem dX8_ordersIn_64 : decode cX8_ordersIn 64 = .ok (.aload_n 0, 1) := by decide +kernel
theorem dX8_ordersIn_65 : decode cX8_ordersIn 65 = .ok (.getfield 7, 3) := by decide +kernel
theorem dX8_ordersIn_68 : decode cX8_ordersIn 68 = .ok (.iconst 2, 1) := by decide +kernel
theorem dX8_ordersIn_69 : decode cX8_ordersIn 69 = .ok (.iload 4, 2) := by decide +kernel
theorem dX8_ordersIn_71 : decode cX8_ordersIn 71 = .ok (.iadd, 1) := by decide +kernel
theorem dX8_ordersIn_72 : decode cX8_ordersIn 72 = .ok (.iaload, 1) := by decide +kernel
theorem dX8_ordersIn_73 : decode cX8_ordersIn 73 = .ok (.if_icmp .ne 7, 3) := by decide +kernel
theorem dX8_ordersIn_76 : decode cX8_ordersIn 76 = .ok (.iconst 1, 1) := by decide +kernel
theorem dX8_ordersIn_77 : decode cX8_ordersIn 77 = .ok (.goto 4, 3) := by decide +kernel
theorem dX8_ordersIn_80 : decode cX8_ordersIn 80 = .ok (.iconst 0, 1) := by decide +kernel
theorem dX8_ordersIn_81 : decode cX8_ordersIn 81 = .ok (.istore_n 3, 1) := by decide +kernel
theorem dX8_ordersIn_82 : decode cX8_ordersIn 82 = .ok (.iinc 4 1, 3) := by decide +kernel
theorem dX8_ordersIn_85 : decode cX8_ordersIn 85 = .ok (.goto (-47), 3) := by decide +kernel
theorem dX8_ordersIn_88 : decode cX8_ordersIn 88 = .ok (.iload_n 3, 1) := by decide +kernel
theorem dX8_ordersIn_89 : decode cX8_ordersIn 89 = .ok (.ifCond .eq 5, 3) := by decide +kernel
theorem dX8_ordersIn_92 : decode cX8_ordersIn 92 = .ok (.iload_n 2, 1) := by decide +kernel
theorem dX8_ordersIn_93 : decode cX8_ordersIn 93 = .ok (.ireturn, 1) := by decide +kernel
theorem dX8_ordersIn_94 : decode cX8_ordersIn 94 = .ok (.iinc 2 1, 3) := by decide +kernel
theorem dX8_ordersIn_97 : decode cX8_ordersIn 97 = .ok (.goto (-71), 3) := by decide +kernel
theorem dX8_ordersIn_100 : decode cX8_ordersIn 100 = .ok (.bipush (-6), 2) := by decide +kernel
theorem dX8_ordersIn_102 : decode cX8_ordersIn 102 = .ok (.ireturn, 1) := by decide +kernel
theorem dX8_laysStep_0 : decode cX8_laysStep 0 = .ok (.iload_n 1, 1) := by decide +kernel
theorem dX8_laysStep_1 : decode cX8_laysStep 1 = .ok (.tableswitch 63 0 2 #[27, 39, 51], 27) := by decide +kernel
theorem dX8_laysStep_28 : decode cX8_laysStep 28 = .ok (.aload_n 0, 1) := by decide +kernel
theorem dX8_laysStep_29 : decode cX8_laysStep 29 = .ok (.aload_n 0, 1) := by decide +kernel
theorem dX8_laysStep_30 : decode cX8_laysStep 30 = .ok (.getfield 32, 3) := by decide +kernel
theorem dX8_laysStep_33 : decode cX8_laysStep 33 = .ok (.iconst 1, 1) := by decide +kernel
theorem dX8_laysStep_34 : decode cX8_laysStep 34 = .ok (.invokevirtual 114, 3) := by decide +kernel
theorem dX8_laysStep_37 : decode cX8_laysStep 37 = .ok (.goto 35, 3) := by decide +kernel
theorem dX8_laysStep_40 : decode cX8_laysStep 40 = .ok (.aload_n 0, 1) := by decide +kernel
theorem dX8_laysStep_41 : decode cX8_laysStep 41 = .ok (.aload_n 0, 1) := by decide +kernel
theorem dX8_laysStep_42 : decode cX8_laysStep 42 = .ok (.getfield 32, 3) := by decide +kernel
theorem dX8_laysStep_45 : decode cX8_laysStep 45 = .ok (.iconst 0, 1) := by decide +kernel
theorem dX8_laysStep_46 : decode cX8_laysStep 46 = .ok (.invokevirtual 117, 3) := by decide +kernel
theorem dX8_laysStep_49 : decode cX8_laysStep 49 = .ok (.goto 23, 3) := by decide +kernel
theorem dX8_laysStep_52 : decode cX8_laysStep 52 = .ok (.aload_n 0, 1) := by decide +kernel
theorem dX8_laysStep_53 : decode cX8_laysStep 53 = .ok (.aload_n 0, 1) := by decide +kernel
theorem dX8_laysStep_54 : decode cX8_laysStep 54 = .ok (.getfield 32, 3) := by decide +kernel
theorem dX8_laysStep_57 : decode cX8_laysStep 57 = .ok (.iconst 1, 1) := by decide +kernel
theorem dX8_laysStep_58 : decode cX8_laysStep 58 = .ok (.invokevirtual 117, 3) := by decide +kernel
theorem dX8_laysStep_61 : decode cX8_laysStep 61 = .ok (.goto 11, 3) := by decide +kernel
theorem dX8_laysStep_64 : decode cX8_laysStep 64 = .ok (.aload_n 0, 1) := by decide +kernel
theorem dX8_laysStep_65 : decode cX8_laysStep 65 = .ok (.aload_n 0, 1) := by decide +kernel
theorem dX8_laysStep_66 : decode cX8_laysStep 66 = .ok (.getfield 32, 3) := by decide +kernel
theorem dX8_laysStep_69 : decode cX8_laysStep 69 = .ok (.invokevirtual 121, 3) := by decide +kernel
theorem dX8_laysStep_72 : decode cX8_laysStep 72 = .ok (.return_, 1) := by decide +kernel
theorem dX8_areOrdering_0 : decode cX8_areOrdering 0 = .ok (.iconst 0, 1) := by decide +kernel
theorem dX8_areOrdering_1 : decode cX8_areOrdering 1 = .ok (.istore_n 3, 1) := by decide +kernel
theorem dX8_areOrdering_2 : decode cX8_areOrdering 2 = .ok (.iload_n 3, 1) := by decide +kernel
theorem dX8_areOrdering_3 : decode cX8_areOrdering 3 = .ok (.aload_n 0, 1) := by decide +kernel
theorem dX8_areOrdering_4 : decode cX8_areOrdering 4 = .ok (.getfield 7, 3) := by decide +kernel
theorem dX8_areOrdering_7 : decode cX8_areOrdering 7 = .ok (.iconst 0, 1) := by decide +kernel
theorem dX8_areOrdering_8 : decode cX8_areOrdering 8 = .ok (.iaload, 1) := by decide +kernel
theorem dX8_areOrdering_9 : decode cX8_areOrdering 9 = .ok (.if_icmp .ge 23, 3) := by decide +kernel
theorem dX8_areOrdering_12 : decode cX8_areOrdering 12 = .ok (.aload_n 0, 1) := by decide +kernel
theorem dX8_areOrdering_13 : decode cX8_areOrdering 13 = .ok (.getfield 41, 3) := by decide +kernel
theorem dX8_areOrdering_16 : decode cX8_areOrdering 16 = .ok (.iload_n 3, 1) := by decide +kernel
theorem dX8_areOrdering_17 : decode cX8_areOrdering 17 = .ok (.aload_n 0, 1) := by decide +kernel
theorem dX8_areOrdering_18 : decode cX8_areOrdering 18 = .ok (.getfield 7, 3) := by decide +kernel
theorem dX8_areOrdering_21 : decode cX8_areOrdering 21 = .ok (.iconst 2, 1) := by decide +kernel
theorem dX8_areOrdering_22 : decode cX8_areOrdering 22 = .ok (.iload_n 3, 1) := by decide +kernel
theorem dX8_areOrdering_23 : decode cX8_areOrdering 23 = .ok (.iadd, 1) := by decide +kernel
theorem dX8_areOrdering_24 : decode cX8_areOrdering 24 = .ok (.iaload, 1) := by decide +kernel
theorem dX8_areOrdering_25 : decode cX8_areOrdering 25 = .ok (.iastore, 1) := by decide +kernel
theorem dX8_areOrdering_26 : decode cX8_areOrdering 26 = .ok (.iinc 3 1, 3) := by decide +kernel
theorem dX8_areOrdering_29 : decode cX8_areOrdering 29 = .ok (.goto (-27), 3) := by decide +kernel
theorem dX8_areOrdering_32 : decode cX8_areOrdering 32 = .ok (.iload_n 1, 1) := by decide +kernel
theorem dX8_areOrdering_33 : decode cX8_areOrdering 33 = .ok (.iconst 1, 1) := by decide +kernel
theorem dX8_areOrdering_34 : decode cX8_areOrdering 34 = .ok (.isub, 1) := by decide +kernel
theorem dX8_areOrdering_35 : decode cX8_areOrdering 35 = .ok (.istore_n 3, 1) := by decide +kernel
theorem dX8_areOrdering_36 : decode cX8_areOrdering 36 = .ok (.iload_n 3, 1) := by decide +kernel
theorem dX8_areOrdering_37 : decode cX8_areOrdering 37 = .ok (.ifCond .lt 93, 3) := by decide +kernel
theorem dX8_areOrdering_40 : decode cX8_areOrdering 40 = .ok (.aload_n 0, 1) := by decide +kernel
theorem dX8_areOrdering_41 : decode cX8_areOrdering 41 = .ok (.iload_n 2, 1) := by decide +kernel
theorem dX8_areOrdering_42 : decode cX8_areOrdering 42 = .ok (.iconst 2, 1) := by decide +kernel
theorem dX8_areOrdering_43 : decode cX8_areOrdering 43 = .ok (.iload_n 3, 1) := by decide +kernel
theorem dX8_areOrdering_44 : decode cX8_areOrdering 44 = .ok (.imul, 1) := by decide +kernel
theorem dX8_areOrdering_45 : decode cX8_areOrdering 45 = .ok (.ishr, 1) := by decide +kernel
theorem dX8_areOrdering_46 : decode cX8_areOrdering 46 = .ok (.iconst 3, 1) := by decide +kernel
theorem dX8_areOrdering_47 : decode cX8_areOrdering 47 = .ok (.iand, 1) := by decide +kernel
theorem dX8_areOrdering_48 : decode cX8_areOrdering 48 = .ok (.invokevirtual 182, 3) := by decide +kernel
theorem dX8_areOrdering_51 : decode cX8_areOrdering 51 = .ok (.iconst 0, 1) := by decide +kernel
theorem dX8_areOrdering_52 : decode cX8_areOrdering 52 = .ok (.istore 4, 2) := by decide +kernel
theorem dX8_areOrdering_54 : decode cX8_areOrdering 54 = .ok (.iload 4, 2) := by decide +kernel
theorem dX8_areOrdering_56 : decode cX8_areOrdering 56 = .ok (.aload_n 0, 1) := by decide +kernel
theorem dX8_areOrdering_57 : decode cX8_areOrdering 57 = .ok (.getfield 7, 3) := by decide +kernel
theorem dX8_areOrdering_60 : decode cX8_areOrdering 60 = .ok (.iconst 0, 1) := by decide +kernel
theorem dX8_areOrdering_61 : decode cX8_areOrdering 61 = .ok (.iaload, 1) := by decide +kernel
theorem dX8_areOrdering_62 : decode cX8_areOrdering 62 = .ok (.if_icmp .ge 28, 3) := by decide +kernel
theorem dX8_areOrdering_65 : decode cX8_areOrdering 65 = .ok (.aload_n 0, 1) := by decide +kernel
theorem dX8_areOrdering_66 : decode cX8_areOrdering 66 = .ok (.getfield 44, 3) := by decide +kernel
theorem dX8_areOrdering_69 : decode cX8_areOrdering 69 = .ok (.aload_n 0, 1) := by decide +kernel
theorem dX8_areOrdering_70 : decode cX8_areOrdering 70 = .ok (.getfield 32, 3) := by decide +kernel
theorem dX8_areOrdering_73 : decode cX8_areOrdering 73 = .ok (.iload 4, 2) := by decide +kernel
theorem dX8_areOrdering_75 : decode cX8_areOrdering 75 = .ok (.iaload, 1) := by decide +kernel
theorem dX8_areOrdering_76 : decode cX8_areOrdering 76 = .ok (.aload_n 0, 1) := by decide +kernel
theorem dX8_areOrdering_77 : decode cX8_areOrdering 77 = .ok (.getfield 41, 3) := by decide +kernel
theorem dX8_areOrdering_80 : decode cX8_areOrdering 80 = .ok (.iload 4, 2) := by decide +kernel
theorem dX8_areOrdering_82 : decode cX8_areOrdering 82 = .ok (.iaload, 1) := by decide +kernel
theorem dX8_areOrdering_83 : decode cX8_areOrdering 83 = .ok (.iastore, 1) := by decide +kernel
theorem dX8_areOrdering_84 : decode cX8_areOrdering 84 = .ok (.iinc 4 1, 3) := by decide +kernel
theorem dX8_areOrdering_87 : decode cX8_areOrdering 87 = .ok (.goto (-33), 3) := by decide +kernel
theorem dX8_areOrdering_90 : decode cX8_areOrdering 90 = .ok (.iconst 0, 1) := by decide +kernel
theorem dX8_areOrdering_91 : decode cX8_areOrdering 91 = .ok (.istore 4, 2) := by decide +kernel
theorem dX8_areOrdering_93 : decode cX8_areOrdering 93 = .ok (.iload 4, 2) := by decide +kernel
theorem dX8_areOrdering_95 : decode cX8_areOrdering 95 = .ok (.aload_n 0, 1) := by decide +kernel
theorem dX8_areOrdering_96 : decode cX8_areOrdering 96 = .ok (.getfield 7, 3) := by decide +kernel
theorem dX8_areOrdering_99 : decode cX8_areOrdering 99 = .ok (.iconst 0, 1) := by decide +kernel
theorem dX8_areOrdering_100 : decode cX8_areOrdering 100 = .ok (.iaload, 1) := by decide +kernel
theorem dX8_areOrdering_101 : decode cX8_areOrdering 101 = .ok (.if_icmp .ge 23, 3) := by decide +kernel
theorem dX8_areOrdering_104 : decode cX8_areOrdering 104 = .ok (.aload_n 0, 1) := by decide +kernel
theorem dX8_areOrdering_105 : decode cX8_areOrdering 105 = .ok (.getfield 41, 3) := by decide +kernel
theorem dX8_areOrdering_108 : decode cX8_areOrdering 108 = .ok (.iload 4, 2) := by decide +kernel
theorem dX8_areOrdering_110 : decode cX8_areOrdering 110 = .ok (.aload_n 0, 1) := by decide +kernel
theorem dX8_areOrdering_111 : decode cX8_areOrdering 111 = .ok (.getfield 44, 3) := by decide +kernel
theorem dX8_areOrdering_114 : decode cX8_areOrdering 114 = .ok (.iload 4, 2) := by decide +kernel
theorem dX8_areOrdering_116 : decode cX8_areOrdering 116 = .ok (.iaload, 1) := by decide +kernel
theorem dX8_areOrdering_117 : decode cX8_areOrdering 117 = .ok (.iastore, 1) := by decide +kernel
theorem dX8_areOrdering_118 : decode cX8_areOrdering 118 = .ok (.iinc 4 1, 3) := by decide +kernel
theorem dX8_areOrdering_121 : decode cX8_areOrdering 121 = .ok (.goto (-28), 3) := by decide +kernel
theorem dX8_areOrdering_124 : decode cX8_areOrdering 124 = .ok (.iinc 3 (-1), 3) := by decide +kernel
theorem dX8_areOrdering_127 : decode cX8_areOrdering 127 = .ok (.goto (-91), 3) := by decide +kernel
theorem dX8_areOrdering_130 : decode cX8_areOrdering 130 = .ok (.iconst 1, 1) := by decide +kernel
theorem dX8_areOrdering_131 : decode cX8_areOrdering 131 = .ok (.istore_n 3, 1) := by decide +kernel
theorem dX8_areOrdering_132 : decode cX8_areOrdering 132 = .ok (.iconst 0, 1) := by decide +kernel
theorem dX8_areOrdering_133 : decode cX8_areOrdering 133 = .ok (.istore 4, 2) := by decide +kernel
theorem dX8_areOrdering_135 : decode cX8_areOrdering 135 = .ok (.iload 4, 2) := by decide +kernel
theorem dX8_areOrdering_137 : decode cX8_areOrdering 137 = .ok (.aload_n 0, 1) := by decide +kernel
theorem dX8_areOrdering_138 : decode cX8_areOrdering 138 = .ok (.getfield 7, 3) := by decide +kernel
theorem dX8_areOrdering_141 : decode cX8_areOrdering 141 = .ok (.iconst 0, 1) := by decide +kernel
theorem dX8_areOrdering_142 : decode cX8_areOrdering 142 = .ok (.iaload, 1) := by decide +kernel
theorem dX8_areOrdering_143 : decode cX8_areOrdering 143 = .ok (.if_icmp .ge 31, 3) := by decide +kernel
theorem dX8_areOrdering_146 : decode cX8_areOrdering 146 = .ok (.iload_n 3, 1) := by decide +kernel
theorem dX8_areOrdering_147 : decode cX8_areOrdering 147 = .ok (.ifCond .eq 19, 3) := by decide +kernel
theorem dX8_areOrdering_150 : decode cX8_areOrdering 150 = .ok (.aload_n 0, 1) := by decide +kernel
theorem dX8_areOrdering_151 : decode cX8_areOrdering 151 = .ok (.getfield 41, 3) := by decide +kernel
theorem dX8_areOrdering_154 : decode cX8_areOrdering 154 = .ok (.iload 4, 2) := by decide +kernel
theorem dX8_areOrdering_156 : decode cX8_areOrdering 156 = .ok (.iaload, 1) := by decide +kernel
theorem dX8_areOrdering_157 : decode cX8_areOrdering 157 = .ok (.iload 4, 2) := by decide +kernel
theorem dX8_areOrdering_159 : decode cX8_areOrdering 159 = .ok (.if_icmp .ne 7, 3) := by decide +kernel
theorem dX8_areOrdering_162 : decode cX8_areOrdering 162 = .ok (.iconst 1, 1) := by decide +kernel
theorem dX8_areOrdering_163 : decode cX8_areOrdering 163 = .ok (.goto 4, 3) := by decide +kernel
theorem dX8_areOrdering_166 : decode cX8_areOrdering 166 = .ok (.iconst 0, 1) := by decide +kernel
theorem dX8_areOrdering_167 : decode cX8_areOrdering 167 = .ok (.istore_n 3, 1) := by decide +kernel
theorem dX8_areOrdering_168 : decode cX8_areOrdering 168 = .ok (.iinc 4 1, 3) := by decide +kernel
theorem dX8_areOrdering_171 : decode cX8_areOrdering 171 = .ok (.goto (-36), 3) := by decide +kernel
theorem dX8_areOrdering_174 : decode cX8_areOrdering 174 = .ok (.iload_n 3, 1) := by decide +kernel
theorem dX8_areOrdering_175 : decode cX8_areOrdering 175 = .ok (.ireturn, 1) := by decide +kernel
theorem dX8_leastSteps_0 : decode cX8_leastSteps 0 = .ok (.iconst 0, 1) := by decide +kernel
theorem dX8_leastSteps_1 : decode cX8_leastSteps 1 = .ok (.istore_n 1, 1) := by decide +kernel
theorem dX8_leastSteps_2 : decode cX8_leastSteps 2 = .ok (.iload_n 1, 1) := by decide +kernel
theorem dX8_leastSteps_3 : decode cX8_leastSteps 3 = .ok (.iconst 5, 1) := by decide +kernel
theorem dX8_leastSteps_4 : decode cX8_leastSteps 4 = .ok (.if_icmp .gt 43, 3) := by decide +kernel
theorem dX8_leastSteps_7 : decode cX8_leastSteps 7 = .ok (.iconst 0, 1) := by decide +kernel
theorem dX8_leastSteps_8 : decode cX8_leastSteps 8 = .ok (.istore_n 2, 1) := by decide +kernel
theorem dX8_leastSteps_9 : decode cX8_leastSteps 9 = .ok (.iload_n 2, 1) := by decide +kernel
theorem dX8_leastSteps_10 : decode cX8_leastSteps 10 = .ok (.iconst 1, 1) := by decide +kernel
theorem dX8_leastSteps_11 : decode cX8_leastSteps 11 = .ok (.iconst 2, 1) := by decide +kernel
theorem dX8_leastSteps_12 : decode cX8_leastSteps 12 = .ok (.iload_n 1, 1) := by decide +kernel
theorem dX8_leastSteps_13 : decode cX8_leastSteps 13 = .ok (.imul, 1) := by decide +kernel
theorem dX8_leastSteps_14 : decode cX8_leastSteps 14 = .ok (.ishl, 1) := by decide +kernel
theorem dX8_leastSteps_15 : decode cX8_leastSteps 15 = .ok (.if_icmp .ge 26, 3) := by decide +kernel
theorem dX8_leastSteps_18 : decode cX8_leastSteps 18 = .ok (.aload_n 0, 1) := by decide +kernel
theorem dX8_leastSteps_19 : decode cX8_leastSteps 19 = .ok (.iload_n 1, 1) := by decide +kernel
theorem dX8_leastSteps_20 : decode cX8_leastSteps 20 = .ok (.iload_n 2, 1) := by decide +kernel
theorem dX8_leastSteps_21 : decode cX8_leastSteps 21 = .ok (.invokevirtual 185, 3) := by decide +kernel
theorem dX8_leastSteps_24 : decode cX8_leastSteps 24 = .ok (.ifCond .eq 11, 3) := by decide +kernel
theorem dX8_leastSteps_27 : decode cX8_leastSteps 27 = .ok (.sipush 2000, 3) := by decide +kernel
theorem dX8_leastSteps_30 : decode cX8_leastSteps 30 = .ok (.iload_n 1, 1) := by decide +kernel
theorem dX8_leastSteps_31 : decode cX8_leastSteps 31 = .ok (.imul, 1) := by decide +kernel
theorem dX8_leastSteps_32 : decode cX8_leastSteps 32 = .ok (.iload_n 2, 1) := by decide +kernel
theorem dX8_leastSteps_33 : decode cX8_leastSteps 33 = .ok (.iadd, 1) := by decide +kernel
theorem dX8_leastSteps_34 : decode cX8_leastSteps 34 = .ok (.ireturn, 1) := by decide +kernel
theorem dX8_leastSteps_35 : decode cX8_leastSteps 35 = .ok (.iinc 2 1, 3) := by decide +kernel
theorem dX8_leastSteps_38 : decode cX8_leastSteps 38 = .ok (.goto (-29), 3) := by decide +kernel
theorem dX8_leastSteps_41 : decode cX8_leastSteps 41 = .ok (.iinc 1 1, 3) := by decide +kernel
theorem dX8_leastSteps_44 : decode cX8_leastSteps 44 = .ok (.goto (-42), 3) := by decide +kernel
theorem dX8_leastSteps_47 : decode cX8_leastSteps 47 = .ok (.bipush (-6), 2) := by decide +kernel
theorem dX8_leastSteps_49 : decode cX8_leastSteps 49 = .ok (.ireturn, 1) := by decide +kernel
theorem dX8_fewestSteps_0 : decode cX8_fewestSteps 0 = .ok (.aload_n 0, 1) := by decide +kernel
theorem dX8_fewestSteps_1 : decode cX8_fewestSteps 1 = .ok (.iconst 0, 1) := by decide +kernel
theorem dX8_fewestSteps_2 : decode cX8_fewestSteps 2 = .ok (.putfield 53, 3) := by decide +kernel
theorem dX8_fewestSteps_5 : decode cX8_fewestSteps 5 = .ok (.aload_n 0, 1) := by decide +kernel
theorem dX8_fewestSteps_6 : decode cX8_fewestSteps 6 = .ok (.invokevirtual 189, 3) := by decide +kernel
theorem dX8_fewestSteps_9 : decode cX8_fewestSteps 9 = .ok (.istore_n 1, 1) := by decide +kernel
theorem dX8_fewestSteps_10 : decode cX8_fewestSteps 10 = .ok (.iload_n 1, 1) := by decide +kernel
theorem dX8_fewestSteps_11 : decode cX8_fewestSteps 11 = .ok (.bipush (-6), 2) := by decide +kernel
theorem dX8_fewestSteps_13 : decode cX8_fewestSteps 13 = .ok (.if_icmp .ne 8, 3) := by decide +kernel
theorem dX8_fewestSteps_16 : decode cX8_fewestSteps 16 = .ok (.bipush (-6), 2) := by decide +kernel
theorem dX8_fewestSteps_18 : decode cX8_fewestSteps 18 = .ok (.goto 8, 3) := by decide +kernel
theorem dX8_fewestSteps_21 : decode cX8_fewestSteps 21 = .ok (.iload_n 1, 1) := by decide +kernel
theorem dX8_fewestSteps_22 : decode cX8_fewestSteps 22 = .ok (.sipush 2000, 3) := by decide +kernel
theorem dX8_fewestSteps_25 : decode cX8_fewestSteps 25 = .ok (.idiv, 1) := by decide +kernel
theorem dX8_fewestSteps_26 : decode cX8_fewestSteps 26 = .ok (.ireturn, 1) := by decide +kernel
theorem dX8_firstStep_0 : decode cX8_firstStep 0 = .ok (.aload_n 0, 1) := by decide +kernel
theorem dX8_firstStep_1 : decode cX8_firstStep 1 = .ok (.iconst 0, 1) := by decide +kernel
theorem dX8_firstStep_2 : decode cX8_firstStep 2 = .ok (.putfield 53, 3) := by decide +kernel
theorem dX8_firstStep_5 : decode cX8_firstStep 5 = .ok (.aload_n 0, 1) := by decide +kernel
theorem dX8_firstStep_6 : decode cX8_firstStep 6 = .ok (.invokevirtual 189, 3) := by decide +kernel
theorem dX8_firstStep_9 : decode cX8_firstStep 9 = .ok (.istore_n 1, 1) := by decide +kernel
theorem dX8_firstStep_10 : decode cX8_firstStep 10 = .ok (.iload_n 1, 1) := by decide +kernel
theorem dX8_firstStep_11 : decode cX8_firstStep 11 = .ok (.sipush 2000, 3) := by decide +kernel
theorem dX8_firstStep_14 : decode cX8_firstStep 14 = .ok (.idiv, 1) := by decide +kernel
theorem dX8_firstStep_15 : decode cX8_firstStep 15 = .ok (.istore_n 2, 1) := by decide +kernel
theorem dX8_firstStep_16 : decode cX8_firstStep 16 = .ok (.iload_n 1, 1) := by decide +kernel
theorem dX8_firstStep_17 : decode cX8_firstStep 17 = .ok (.bipush (-6), 2) := by decide +kernel
theorem dX8_firstStep_19 : decode cX8_firstStep 19 = .ok (.if_icmp .eq 7, 3) := by decide +kernel
theorem dX8_firstStep_22 : decode cX8_firstStep 22 = .ok (.iload_n 2, 1) := by decide +kernel
theorem dX8_firstStep_23 : decode cX8_firstStep 23 = .ok (.ifCond .ne 8, 3) := by decide +kernel
theorem dX8_firstStep_26 : decode cX8_firstStep 26 = .ok (.bipush (-6), 2) := by decide +kernel
theorem dX8_firstStep_28 : decode cX8_firstStep 28 = .ok (.goto 14, 3) := by decide +kernel
theorem dX8_firstStep_31 : decode cX8_firstStep 31 = .ok (.iload_n 1, 1) := by decide +kernel
theorem dX8_firstStep_32 : decode cX8_firstStep 32 = .ok (.sipush 2000, 3) := by decide +kernel
theorem dX8_firstStep_35 : decode cX8_firstStep 35 = .ok (.irem, 1) := by decide +kernel
theorem dX8_firstStep_36 : decode cX8_firstStep 36 = .ok (.iconst 2, 1) := by decide +kernel
theorem dX8_firstStep_37 : decode cX8_firstStep 37 = .ok (.iload_n 2, 1) := by decide +kernel
theorem dX8_firstStep_38 : decode cX8_firstStep 38 = .ok (.iconst 1, 1) := by decide +kernel
theorem dX8_firstStep_39 : decode cX8_firstStep 39 = .ok (.isub, 1) := by decide +kernel
theorem dX8_firstStep_40 : decode cX8_firstStep 40 = .ok (.imul, 1) := by decide +kernel
theorem dX8_firstStep_41 : decode cX8_firstStep 41 = .ok (.ishr, 1) := by decide +kernel
theorem dX8_firstStep_42 : decode cX8_firstStep 42 = .ok (.ireturn, 1) := by decide +kernel
theorem dX8_put_0 : decode cX8_put 0 = .ok (.aload_n 0, 1) := by decide +kernel
theorem dX8_put_1 : decode cX8_put 1 = .ok (.iconst 0, 1) := by decide +kernel
theorem dX8_put_2 : decode cX8_put 2 = .ok (.putfield 53, 3) := by decide +kernel
theorem dX8_put_5 : decode cX8_put 5 = .ok (.iconst 0, 1) := by decide +kernel
theorem dX8_put_6 : decode cX8_put 6 = .ok (.istore_n 3, 1) := by decide +kernel
theorem dX8_put_7 : decode cX8_put 7 = .ok (.lload_n 1, 1) := by decide +kernel
theorem dX8_put_8 : decode cX8_put 8 = .ok (.lstore 4, 2) := by decide +kernel
theorem dX8_put_10 : decode cX8_put 10 = .ok (.iconst 1, 1) := by decide +kernel
theorem dX8_put_11 : decode cX8_put 11 = .ok (.istore 6, 2) := by decide +kernel
theorem dX8_put_13 : decode cX8_put 13 = .ok (.iload_n 3, 1) := by decide +kernel
theorem dX8_put_14 : decode cX8_put 14 = .ok (.bipush 8, 2) := by decide +kernel
theorem dX8_put_16 : decode cX8_put 16 = .ok (.if_icmp .ge 56, 3) := by decide +kernel
theorem dX8_put_19 : decode cX8_put 19 = .ok (.lload 4, 2) := by decide +kernel
theorem dX8_put_21 : decode cX8_put 21 = .ok (.ldc2_w 192, 3) := by decide +kernel
theorem dX8_put_24 : decode cX8_put 24 = .ok (.land, 1) := by decide +kernel
theorem dX8_put_25 : decode cX8_put 25 = .ok (.lconst 0, 1) := by decide +kernel
theorem dX8_put_26 : decode cX8_put 26 = .ok (.lcmp, 1) := by decide +kernel
theorem dX8_put_27 : decode cX8_put 27 = .ok (.ifCond .eq 45, 3) := by decide +kernel
theorem dX8_put_30 : decode cX8_put 30 = .ok (.iload 6, 2) := by decide +kernel
theorem dX8_put_32 : decode cX8_put 32 = .ok (.ifCond .eq 24, 3) := by decide +kernel
theorem dX8_put_35 : decode cX8_put 35 = .ok (.lload 4, 2) := by decide +kernel
theorem dX8_put_37 : decode cX8_put 37 = .ok (.ldc2_w 192, 3) := by decide +kernel
theorem dX8_put_40 : decode cX8_put 40 = .ok (.land, 1) := by decide +kernel
theorem dX8_put_41 : decode cX8_put 41 = .ok (.l2i, 1) := by decide +kernel
theorem dX8_put_42 : decode cX8_put 42 = .ok (.bipush 33, 2) := by decide +kernel
theorem dX8_put_44 : decode cX8_put 44 = .ok (.bipush 126, 2) := by decide +kernel
theorem dX8_put_46 : decode cX8_put 46 = .ok (.invokestatic 64, 3) := by decide +kernel
theorem dX8_put_49 : decode cX8_put 49 = .ok (.ifCond .eq 7, 3) := by decide +kernel
theorem dX8_put_52 : decode cX8_put 52 = .ok (.iconst 1, 1) := by decide +kernel
theorem dX8_put_53 : decode cX8_put 53 = .ok (.goto 4, 3) := by decide +kernel
theorem dX8_put_56 : decode cX8_put 56 = .ok (.iconst 0, 1) := by decide +kernel
theorem dX8_put_57 : decode cX8_put 57 = .ok (.istore 6, 2) := by decide +kernel
theorem dX8_put_59 : decode cX8_put 59 = .ok (.lload 4, 2) := by decide +kernel
theorem dX8_put_61 : decode cX8_put 61 = .ok (.bipush 8, 2) := by decide +kernel
theorem dX8_put_63 : decode cX8_put 63 = .ok (.lushr, 1) := by decide +kernel
theorem dX8_put_64 : decode cX8_put 64 = .ok (.lstore 4, 2) := by decide +kernel
theorem dX8_put_66 : decode cX8_put 66 = .ok (.iinc 3 1, 3) := by decide +kernel
theorem dX8_put_69 : decode cX8_put 69 = .ok (.goto (-56), 3) := by decide +kernel
theorem dX8_put_72 : decode cX8_put 72 = .ok (.iload_n 3, 1) := by decide +kernel
theorem dX8_put_73 : decode cX8_put 73 = .ok (.ifCond .eq 15, 3) := by decide +kernel
theorem dX8_put_76 : decode cX8_put 76 = .ok (.iload 6, 2) := by decide +kernel
theorem dX8_put_78 : decode cX8_put 78 = .ok (.ifCond .eq 10, 3) := by decide +kernel
theorem dX8_put_81 : decode cX8_put 81 = .ok (.lload 4, 2) := by decide +kernel
theorem dX8_put_83 : decode cX8_put 83 = .ok (.lconst 0, 1) := by decide +kernel
theorem dX8_put_84 : decode cX8_put 84 = .ok (.lcmp, 1) := by decide +kernel
theorem dX8_put_85 : decode cX8_put 85 = .ok (.ifCond .eq 6, 3) := by decide +kernel
theorem dX8_put_88 : decode cX8_put 88 = .ok (.bipush (-2), 2) := by decide +kernel
theorem dX8_put_90 : decode cX8_put 90 = .ok (.ireturn, 1) := by decide +kernel
theorem dX8_put_91 : decode cX8_put 91 = .ok (.aload_n 0, 1) := by decide +kernel
theorem dX8_put_92 : decode cX8_put 92 = .ok (.getfield 90, 3) := by decide +kernel
theorem dX8_put_95 : decode cX8_put 95 = .ok (.iload_n 3, 1) := by decide +kernel
theorem dX8_put_96 : decode cX8_put 96 = .ok (.iadd, 1) := by decide +kernel
theorem dX8_put_97 : decode cX8_put 97 = .ok (.bipush 80, 2) := by decide +kernel
theorem dX8_put_99 : decode cX8_put 99 = .ok (.if_icmp .le 6, 3) := by decide +kernel
theorem dX8_put_102 : decode cX8_put 102 = .ok (.bipush (-4), 2) := by decide +kernel
theorem dX8_put_104 : decode cX8_put 104 = .ok (.ireturn, 1) := by decide +kernel
theorem dX8_put_105 : decode cX8_put 105 = .ok (.iconst 0, 1) := by decide +kernel
theorem dX8_put_106 : decode cX8_put 106 = .ok (.istore 7, 2) := by decide +kernel
theorem dX8_put_108 : decode cX8_put 108 = .ok (.iload 7, 2) := by decide +kernel
theorem dX8_put_110 : decode cX8_put 110 = .ok (.iload_n 3, 1) := by decide +kernel
theorem dX8_put_111 : decode cX8_put 111 = .ok (.if_icmp .ge 37, 3) := by decide +kernel
theorem dX8_put_114 : decode cX8_put 114 = .ok (.aload_n 0, 1) := by decide +kernel
theorem dX8_put_115 : decode cX8_put 115 = .ok (.getfield 23, 3) := by decide +kernel
theorem dX8_put_118 : decode cX8_put 118 = .ok (.aload_n 0, 1) := by decide +kernel
theorem dX8_put_119 : decode cX8_put 119 = .ok (.getfield 90, 3) := by decide +kernel
theorem dX8_put_122 : decode cX8_put 122 = .ok (.iload 7, 2) := by decide +kernel
theorem dX8_put_124 : decode cX8_put 124 = .ok (.iadd, 1) := by decide +kernel
theorem dX8_put_125 : decode cX8_put 125 = .ok (.lload_n 1, 1) := by decide +kernel
theorem dX8_put_126 : decode cX8_put 126 = .ok (.bipush 8, 2) := by decide +kernel
theorem dX8_put_128 : decode cX8_put 128 = .ok (.iload_n 3, 1) := by decide +kernel
theorem dX8_put_129 : decode cX8_put 129 = .ok (.iconst 1, 1) := by decide +kernel
theorem dX8_put_130 : decode cX8_put 130 = .ok (.isub, 1) := by decide +kernel
theorem dX8_put_131 : decode cX8_put 131 = .ok (.iload 7, 2) := by decide +kernel
theorem dX8_put_133 : decode cX8_put 133 = .ok (.isub, 1) := by decide +kernel
theorem dX8_put_134 : decode cX8_put 134 = .ok (.imul, 1) := by decide +kernel
theorem dX8_put_135 : decode cX8_put 135 = .ok (.lushr, 1) := by decide +kernel
theorem dX8_put_136 : decode cX8_put 136 = .ok (.ldc2_w 192, 3) := by decide +kernel
theorem dX8_put_139 : decode cX8_put 139 = .ok (.land, 1) := by decide +kernel
theorem dX8_put_140 : decode cX8_put 140 = .ok (.l2i, 1) := by decide +kernel
theorem dX8_put_141 : decode cX8_put 141 = .ok (.iastore, 1) := by decide +kernel
theorem dX8_put_142 : decode cX8_put 142 = .ok (.iinc 7 1, 3) := by decide +kernel
theorem dX8_put_145 : decode cX8_put 145 = .ok (.goto (-37), 3) := by decide +kernel
theorem dX8_put_148 : decode cX8_put 148 = .ok (.aload_n 0, 1) := by decide +kernel
theorem dX8_put_149 : decode cX8_put 149 = .ok (.dup, 1) := by decide +kernel
theorem dX8_put_150 : decode cX8_put 150 = .ok (.getfield 90, 3) := by decide +kernel
theorem dX8_put_153 : decode cX8_put 153 = .ok (.iload_n 3, 1) := by decide +kernel
theorem dX8_put_154 : decode cX8_put 154 = .ok (.iadd, 1) := by decide +kernel
theorem dX8_put_155 : decode cX8_put 155 = .ok (.putfield 90, 3) := by decide +kernel
theorem dX8_put_158 : decode cX8_put 158 = .ok (.aload_n 0, 1) := by decide +kernel
theorem dX8_put_159 : decode cX8_put 159 = .ok (.getfield 90, 3) := by decide +kernel
theorem dX8_put_162 : decode cX8_put 162 = .ok (.ireturn, 1) := by decide +kernel
theorem dX8_wipe_0 : decode cX8_wipe 0 = .ok (.aload_n 0, 1) := by decide +kernel
theorem dX8_wipe_1 : decode cX8_wipe 1 = .ok (.iconst 0, 1) := by decide +kernel
theorem dX8_wipe_2 : decode cX8_wipe 2 = .ok (.putfield 53, 3) := by decide +kernel
theorem dX8_wipe_5 : decode cX8_wipe 5 = .ok (.aload_n 0, 1) := by decide +kernel
theorem dX8_wipe_6 : decode cX8_wipe 6 = .ok (.getfield 90, 3) := by decide +kernel
theorem dX8_wipe_9 : decode cX8_wipe 9 = .ok (.istore_n 1, 1) := by decide +kernel
theorem dX8_wipe_10 : decode cX8_wipe 10 = .ok (.aload_n 0, 1) := by decide +kernel
theorem dX8_wipe_11 : decode cX8_wipe 11 = .ok (.iconst 0, 1) := by decide +kernel
theorem dX8_wipe_12 : decode cX8_wipe 12 = .ok (.putfield 90, 3) := by decide +kernel
theorem dX8_wipe_15 : decode cX8_wipe 15 = .ok (.iload_n 1, 1) := by decide +kernel
theorem dX8_wipe_16 : decode cX8_wipe 16 = .ok (.ireturn, 1) := by decide +kernel
theorem dX8_letter_0 : decode cX8_letter 0 = .ok (.aload_n 0, 1) := by decide +kernel
theorem dX8_letter_1 : decode cX8_letter 1 = .ok (.getfield 194, 3) := by decide +kernel
theorem dX8_letter_4 : decode cX8_letter 4 = .ok (.aload_n 0, 1) := by decide +kernel
theorem dX8_letter_5 : decode cX8_letter 5 = .ok (.getfield 90, 3) := by decide +kernel
theorem dX8_letter_8 : decode cX8_letter 8 = .ok (.if_icmp .ge 15, 3) := by decide +kernel
theorem dX8_letter_11 : decode cX8_letter 11 = .ok (.aload_n 0, 1) := by decide +kernel
theorem dX8_letter_12 : decode cX8_letter 12 = .ok (.getfield 23, 3) := by decide +kernel
theorem dX8_letter_15 : decode cX8_letter 15 = .ok (.aload_n 0, 1) := by decide +kernel
theorem dX8_letter_16 : decode cX8_letter 16 = .ok (.getfield 194, 3) := by decide +kernel
theorem dX8_letter_19 : decode cX8_letter 19 = .ok (.iaload, 1) := by decide +kernel
theorem dX8_letter_20 : decode cX8_letter 20 = .ok (.goto 4, 3) := by decide +kernel
theorem dX8_letter_23 : decode cX8_letter 23 = .ok (.iconst 0, 1) := by decide +kernel
theorem dX8_letter_24 : decode cX8_letter 24 = .ok (.ireturn, 1) := by decide +kernel
theorem dX8_isLeft_0 : decode cX8_isLeft 0 = .ok (.aload_n 0, 1) := by decide +kernel
theorem dX8_isLeft_1 : decode cX8_isLeft 1 = .ok (.iload_n 1, 1) := by decide +kernel
theorem dX8_isLeft_2 : decode cX8_isLeft 2 = .ok (.invokevirtual 111, 3) := by decide +kernel
theorem dX8_isLeft_5 : decode cX8_isLeft 5 = .ok (.ifCond .eq 16, 3) := by decide +kernel
theorem dX8_isLeft_8 : decode cX8_isLeft 8 = .ok (.aload_n 0, 1) := by decide +kernel
theorem dX8_isLeft_9 : decode cX8_isLeft 9 = .ok (.getfield 29, 3) := by decide +kernel
theorem dX8_isLeft_12 : decode cX8_isLeft 12 = .ok (.iload_n 1, 1) := by decide +kernel
theorem dX8_isLeft_13 : decode cX8_isLeft 13 = .ok (.baload, 1) := by decide +kernel
theorem dX8_isLeft_14 : decode cX8_isLeft 14 = .ok (.ifCond .ne 7, 3) := by decide +kernel
theorem dX8_isLeft_17 : decode cX8_isLeft 17 = .ok (.iconst 1, 1) := by decide +kernel
theorem dX8_isLeft_18 : decode cX8_isLeft 18 = .ok (.goto 4, 3) := by decide +kernel
theorem dX8_isLeft_21 : decode cX8_isLeft 21 = .ok (.iconst 0, 1) := by decide +kernel
theorem dX8_isLeft_22 : decode cX8_isLeft 22 = .ok (.ireturn, 1) := by decide +kernel
theorem dX8_canBegin_0 : decode cX8_canBegin 0 = .ok (.aload_n 0, 1) := by decide +kernel
theorem dX8_canBegin_1 : decode cX8_canBegin 1 = .ok (.iload_n 1, 1) := by decide +kernel
theorem dX8_canBegin_2 : decode cX8_canBegin 2 = .ok (.invokevirtual 197, 3) := by decide +kernel
theorem dX8_canBegin_5 : decode cX8_canBegin 5 = .ok (.istore_n 2, 1) := by decide +kernel
theorem dX8_canBegin_6 : decode cX8_canBegin 6 = .ok (.bipush 10, 2) := by decide +kernel
theorem dX8_canBegin_8 : decode cX8_canBegin 8 = .ok (.istore_n 3, 1) := by decide +kernel
theorem dX8_canBegin_9 : decode cX8_canBegin 9 = .ok (.iload_n 3, 1) := by decide +kernel
theorem dX8_canBegin_10 : decode cX8_canBegin 10 = .ok (.aload_n 0, 1) := by decide +kernel
theorem dX8_canBegin_11 : decode cX8_canBegin 11 = .ok (.getfield 7, 3) := by decide +kernel
theorem dX8_canBegin_14 : decode cX8_canBegin 14 = .ok (.iconst 0, 1) := by decide +kernel
theorem dX8_canBegin_15 : decode cX8_canBegin 15 = .ok (.iaload, 1) := by decide +kernel
theorem dX8_canBegin_16 : decode cX8_canBegin 16 = .ok (.if_icmp .ge 33, 3) := by decide +kernel
theorem dX8_canBegin_19 : decode cX8_canBegin 19 = .ok (.iload_n 2, 1) := by decide +kernel
theorem dX8_canBegin_20 : decode cX8_canBegin 20 = .ok (.ifCond .ne 17, 3) := by decide +kernel
theorem dX8_canBegin_23 : decode cX8_canBegin 23 = .ok (.iload_n 1, 1) := by decide +kernel
theorem dX8_canBegin_24 : decode cX8_canBegin 24 = .ok (.iconst 1, 1) := by decide +kernel
theorem dX8_canBegin_25 : decode cX8_canBegin 25 = .ok (.if_icmp .ne 16, 3) := by decide +kernel
theorem dX8_canBegin_28 : decode cX8_canBegin 28 = .ok (.aload_n 0, 1) := by decide +kernel
theorem dX8_canBegin_29 : decode cX8_canBegin 29 = .ok (.getfield 29, 3) := by decide +kernel
theorem dX8_canBegin_32 : decode cX8_canBegin 32 = .ok (.iload_n 3, 1) := by decide +kernel
theorem dX8_canBegin_33 : decode cX8_canBegin 33 = .ok (.baload, 1) := by decide +kernel
theorem dX8_canBegin_34 : decode cX8_canBegin 34 = .ok (.ifCond .ne 7, 3) := by decide +kernel
theorem dX8_canBegin_37 : decode cX8_canBegin 37 = .ok (.iconst 1, 1) := by decide +kernel
theorem dX8_canBegin_38 : decode cX8_canBegin 38 = .ok (.goto 4, 3) := by decide +kernel
theorem dX8_canBegin_41 : decode cX8_canBegin 41 = .ok (.iconst 0, 1) := by decide +kernel
theorem dX8_canBegin_42 : decode cX8_canBegin 42 = .ok (.istore_n 2, 1) := by decide +kernel
theorem dX8_canBegin_43 : decode cX8_canBegin 43 = .ok (.iinc 3 1, 3) := by decide +kernel
theorem dX8_canBegin_46 : decode cX8_canBegin 46 = .ok (.goto (-37), 3) := by decide +kernel
theorem dX8_canBegin_49 : decode cX8_canBegin 49 = .ok (.iload_n 2, 1) := by decide +kernel
theorem dX8_canBegin_50 : decode cX8_canBegin 50 = .ok (.ireturn, 1) := by decide +kernel
theorem dX8_place_0 : decode cX8_place 0 = .ok (.aload_n 0, 1) := by decide +kernel
theorem dX8_place_1 : decode cX8_place 1 = .ok (.invokevirtual 200, 3) := by decide +kernel
theorem dX8_place_4 : decode cX8_place 4 = .ok (.bipush 48, 2) := by decide +kernel
theorem dX8_place_6 : decode cX8_place 6 = .ok (.isub, 1) := by decide +kernel
theorem dX8_place_7 : decode cX8_place 7 = .ok (.istore_n 1, 1) := by decide +kernel
theorem dX8_place_8 : decode cX8_place 8 = .ok (.aload_n 0, 1) := by decide +kernel
theorem dX8_place_9 : decode cX8_place 9 = .ok (.iload_n 1, 1) := by decide +kernel
theorem dX8_place_10 : decode cX8_place 10 = .ok (.iconst 0, 1) := by decide +kernel
theorem dX8_place_11 : decode cX8_place 11 = .ok (.bipush 9, 2) := by decide +kernel
theorem dX8_place_13 : decode cX8_place 13 = .ok (.invokestatic 64, 3) := by decide +kernel
theorem dX8_place_16 : decode cX8_place 16 = .ok (.ifCond .eq 15, 3) := by decide +kernel
theorem dX8_place_19 : decode cX8_place 19 = .ok (.aload_n 0, 1) := by decide +kernel
theorem dX8_place_20 : decode cX8_place 20 = .ok (.iload_n 1, 1) := by decide +kernel
theorem dX8_place_21 : decode cX8_place 21 = .ok (.invokevirtual 203, 3) := by decide +kernel
theorem dX8_place_24 : decode cX8_place 24 = .ok (.ifCond .eq 7, 3) := by decide +kernel
theorem dX8_place_27 : decode cX8_place 27 = .ok (.iconst 1, 1) := by decide +kernel
theorem dX8_place_28 : decode cX8_place 28 = .ok (.goto 4, 3) := by decide +kernel
theorem dX8_place_31 : decode cX8_place 31 = .ok (.iconst 0, 1) := by decide +kernel
theorem dX8_place_32 : decode cX8_place 32 = .ok (.putfield 206, 3) := by decide +kernel
theorem dX8_place_35 : decode cX8_place 35 = .ok (.aload_n 0, 1) := by decide +kernel
theorem dX8_place_36 : decode cX8_place 36 = .ok (.dup, 1) := by decide +kernel
theorem dX8_place_37 : decode cX8_place 37 = .ok (.getfield 194, 3) := by decide +kernel
theorem dX8_place_40 : decode cX8_place 40 = .ok (.aload_n 0, 1) := by decide +kernel
theorem dX8_place_41 : decode cX8_place 41 = .ok (.getfield 206, 3) := by decide +kernel
theorem dX8_place_44 : decode cX8_place 44 = .ok (.ifCond .eq 7, 3) := by decide +kernel
theorem dX8_place_47 : decode cX8_place 47 = .ok (.iconst 1, 1) := by decide +kernel
theorem dX8_place_48 : decode cX8_place 48 = .ok (.goto 4, 3) := by decide +kernel
theorem dX8_place_51 : decode cX8_place 51 = .ok (.iconst 0, 1) := by decide +kernel
theorem dX8_place_52 : decode cX8_place 52 = .ok (.iadd, 1) := by decide +kernel
theorem dX8_place_53 : decode cX8_place 53 = .ok (.putfield 194, 3) := by decide +kernel
theorem dX8_place_56 : decode cX8_place 56 = .ok (.aload_n 0, 1) := by decide +kernel
theorem dX8_place_57 : decode cX8_place 57 = .ok (.invokevirtual 200, 3) := by decide +kernel
theorem dX8_place_60 : decode cX8_place 60 = .ok (.bipush 48, 2) := by decide +kernel
theorem dX8_place_62 : decode cX8_place 62 = .ok (.isub, 1) := by decide +kernel
theorem dX8_place_63 : decode cX8_place 63 = .ok (.istore_n 2, 1) := by decide +kernel
theorem dX8_place_64 : decode cX8_place 64 = .ok (.aload_n 0, 1) := by decide +kernel
theorem dX8_place_65 : decode cX8_place 65 = .ok (.getfield 206, 3) := by decide +kernel
theorem dX8_place_68 : decode cX8_place 68 = .ok (.ifCond .eq 44, 3) := by decide +kernel
theorem dX8_place_71 : decode cX8_place 71 = .ok (.iload_n 2, 1) := by decide +kernel
theorem dX8_place_72 : decode cX8_place 72 = .ok (.iconst 0, 1) := by decide +kernel
theorem dX8_place_73 : decode cX8_place 73 = .ok (.bipush 9, 2) := by decide +kernel
theorem dX8_place_75 : decode cX8_place 75 = .ok (.invokestatic 64, 3) := by decide +kernel
theorem dX8_place_78 : decode cX8_place 78 = .ok (.ifCond .eq 34, 3) := by decide +kernel
theorem dX8_place_81 : decode cX8_place 81 = .ok (.iload_n 1, 1) := by decide +kernel
theorem dX8_place_82 : decode cX8_place 82 = .ok (.iconst 1, 1) := by decide +kernel
theorem dX8_place_83 : decode cX8_place 83 = .ok (.if_icmp .ne 29, 3) := by decide +kernel
theorem dX8_place_86 : decode cX8_place 86 = .ok (.aload_n 0, 1) := by decide +kernel
theorem dX8_place_87 : decode cX8_place 87 = .ok (.bipush 10, 2) := by decide +kernel
theorem dX8_place_89 : decode cX8_place 89 = .ok (.iload_n 2, 1) := by decide +kernel
theorem dX8_place_90 : decode cX8_place 90 = .ok (.iadd, 1) := by decide +kernel
theorem dX8_place_91 : decode cX8_place 91 = .ok (.invokevirtual 197, 3) := by decide +kernel
theorem dX8_place_94 : decode cX8_place 94 = .ok (.ifCond .eq 18, 3) := by decide +kernel
theorem dX8_place_97 : decode cX8_place 97 = .ok (.bipush 10, 2) := by decide +kernel
theorem dX8_place_99 : decode cX8_place 99 = .ok (.iload_n 2, 1) := by decide +kernel
theorem dX8_place_100 : decode cX8_place 100 = .ok (.iadd, 1) := by decide +kernel
theorem dX8_place_101 : decode cX8_place 101 = .ok (.istore_n 1, 1) := by decide +kernel
theorem dX8_place_102 : decode cX8_place 102 = .ok (.aload_n 0, 1) := by decide +kernel
theorem dX8_place_103 : decode cX8_place 103 = .ok (.dup, 1) := by decide +kernel
theorem dX8_place_104 : decode cX8_place 104 = .ok (.getfield 194, 3) := by decide +kernel
theorem dX8_place_107 : decode cX8_place 107 = .ok (.iconst 1, 1) := by decide +kernel
theorem dX8_place_108 : decode cX8_place 108 = .ok (.iadd, 1) := by decide +kernel
theorem dX8_place_109 : decode cX8_place 109 = .ok (.putfield 194, 3) := by decide +kernel
theorem dX8_place_112 : decode cX8_place 112 = .ok (.aload_n 0, 1) := by decide +kernel
theorem dX8_place_113 : decode cX8_place 113 = .ok (.aload_n 0, 1) := by decide +kernel
theorem dX8_place_114 : decode cX8_place 114 = .ok (.getfield 206, 3) := by decide +kernel
theorem dX8_place_117 : decode cX8_place 117 = .ok (.ifCond .eq 33, 3) := by decide +kernel
theorem dX8_place_120 : decode cX8_place 120 = .ok (.aload_n 0, 1) := by decide +kernel
theorem dX8_place_121 : decode cX8_place 121 = .ok (.iload_n 1, 1) := by decide +kernel
theorem dX8_place_122 : decode cX8_place 122 = .ok (.invokevirtual 197, 3) := by decide +kernel
theorem dX8_place_125 : decode cX8_place 125 = .ok (.ifCond .eq 25, 3) := by decide +kernel
theorem dX8_place_128 : decode cX8_place 128 = .ok (.aload_n 0, 1) := by decide +kernel
theorem dX8_place_129 : decode cX8_place 129 = .ok (.invokevirtual 200, 3) := by decide +kernel
theorem dX8_place_132 : decode cX8_place 132 = .ok (.bipush 44, 2) := by decide +kernel
theorem dX8_place_134 : decode cX8_place 134 = .ok (.if_icmp .eq 12, 3) := by decide +kernel
theorem dX8_place_137 : decode cX8_place 137 = .ok (.aload_n 0, 1) := by decide +kernel
theorem dX8_place_138 : decode cX8_place 138 = .ok (.invokevirtual 200, 3) := by decide +kernel
theorem dX8_place_141 : decode cX8_place 141 = .ok (.bipush 41, 2) := by decide +kernel
theorem dX8_place_143 : decode cX8_place 143 = .ok (.if_icmp .ne 7, 3) := by decide +kernel
theorem dX8_place_146 : decode cX8_place 146 = .ok (.iconst 1, 1) := by decide +kernel
theorem dX8_place_147 : decode cX8_place 147 = .ok (.goto 4, 3) := by decide +kernel
theorem dX8_place_150 : decode cX8_place 150 = .ok (.iconst 0, 1) := by decide +kernel
theorem dX8_place_151 : decode cX8_place 151 = .ok (.putfield 206, 3) := by decide +kernel
theorem dX8_place_154 : decode cX8_place 154 = .ok (.aload_n 0, 1) := by decide +kernel
theorem dX8_place_155 : decode cX8_place 155 = .ok (.getfield 206, 3) := by decide +kernel
theorem dX8_place_158 : decode cX8_place 158 = .ok (.ifCond .eq 10, 3) := by decide +kernel
theorem dX8_place_161 : decode cX8_place 161 = .ok (.aload_n 0, 1) := by decide +kernel
theorem dX8_place_162 : decode cX8_place 162 = .ok (.getfield 29, 3) := by decide +kernel
theorem dX8_place_165 : decode cX8_place 165 = .ok (.iload_n 1, 1) := by decide +kernel
theorem dX8_place_166 : decode cX8_place 166 = .ok (.iconst 1, 1) := by decide +kernel
theorem dX8_place_167 : decode cX8_place 167 = .ok (.bastore, 1) := by decide +kernel
theorem dX8_place_168 : decode cX8_place 168 = .ok (.iload_n 1, 1) := by decide +kernel
theorem dX8_place_169 : decode cX8_place 169 = .ok (.ireturn, 1) := by decide +kernel
theorem dX8_readsCycle_0 : decode cX8_readsCycle 0 = .ok (.aload_n 0, 1) := by decide +kernel
theorem dX8_readsCycle_1 : decode cX8_readsCycle 1 = .ok (.aload_n 0, 1) := by decide +kernel
theorem dX8_readsCycle_2 : decode cX8_readsCycle 2 = .ok (.invokevirtual 200, 3) := by decide +kernel
theorem dX8_readsCycle_5 : decode cX8_readsCycle 5 = .ok (.bipush 40, 2) := by decide +kernel
theorem dX8_readsCycle_7 : decode cX8_readsCycle 7 = .ok (.if_icmp .ne 7, 3) := by decide +kernel
theorem dX8_readsCycle_10 : decode cX8_readsCycle 10 = .ok (.iconst 1, 1) := by decide +kernel
theorem dX8_readsCycle_11 : decode cX8_readsCycle 11 = .ok (.goto 4, 3) := by decide +kernel
theorem dX8_readsCycle_14 : decode cX8_readsCycle 14 = .ok (.iconst 0, 1) := by decide +kernel
theorem dX8_readsCycle_15 : decode cX8_readsCycle 15 = .ok (.putfield 206, 3) := by decide +kernel
theorem dX8_readsCycle_18 : decode cX8_readsCycle 18 = .ok (.aload_n 0, 1) := by decide +kernel
theorem dX8_readsCycle_19 : decode cX8_readsCycle 19 = .ok (.dup, 1) := by decide +kernel
theorem dX8_readsCycle_20 : decode cX8_readsCycle 20 = .ok (.getfield 194, 3) := by decide +kernel
theorem dX8_readsCycle_23 : decode cX8_readsCycle 23 = .ok (.aload_n 0, 1) := by decide +kernel
theorem dX8_readsCycle_24 : decode cX8_readsCycle 24 = .ok (.getfield 206, 3) := by decide +kernel
theorem dX8_readsCycle_27 : decode cX8_readsCycle 27 = .ok (.ifCond .eq 7, 3) := by decide +kernel
theorem dX8_readsCycle_30 : decode cX8_readsCycle 30 = .ok (.iconst 1, 1) := by decide +kernel
theorem dX8_readsCycle_31 : decode cX8_readsCycle 31 = .ok (.goto 4, 3) := by decide +kernel
theorem dX8_readsCycle_34 : decode cX8_readsCycle 34 = .ok (.iconst 0, 1) := by decide +kernel
theorem dX8_readsCycle_35 : decode cX8_readsCycle 35 = .ok (.iadd, 1) := by decide +kernel
theorem dX8_readsCycle_36 : decode cX8_readsCycle 36 = .ok (.putfield 194, 3) := by decide +kernel
theorem dX8_readsCycle_39 : decode cX8_readsCycle 39 = .ok (.aload_n 0, 1) := by decide +kernel
theorem dX8_readsCycle_40 : decode cX8_readsCycle 40 = .ok (.getfield 206, 3) := by decide +kernel
theorem dX8_readsCycle_43 : decode cX8_readsCycle 43 = .ok (.ifCond .eq 10, 3) := by decide +kernel
theorem dX8_readsCycle_46 : decode cX8_readsCycle 46 = .ok (.aload_n 0, 1) := by decide +kernel
theorem dX8_readsCycle_47 : decode cX8_readsCycle 47 = .ok (.invokevirtual 210, 3) := by decide +kernel
theorem dX8_readsCycle_50 : decode cX8_readsCycle 50 = .ok (.goto 4, 3) := by decide +kernel
theorem dX8_readsCycle_53 : decode cX8_readsCycle 53 = .ok (.iconst 0, 1) := by decide +kernel
theorem dX8_readsCycle_54 : decode cX8_readsCycle 54 = .ok (.istore_n 1, 1) := by decide +kernel
theorem dX8_readsCycle_55 : decode cX8_readsCycle 55 = .ok (.aload_n 0, 1) := by decide +kernel
theorem dX8_readsCycle_56 : decode cX8_readsCycle 56 = .ok (.aload_n 0, 1) := by decide +kernel
theorem dX8_readsCycle_57 : decode cX8_readsCycle 57 = .ok (.getfield 206, 3) := by decide +kernel
theorem dX8_readsCycle_60 : decode cX8_readsCycle 60 = .ok (.ifCond .eq 16, 3) := by decide +kernel
theorem dX8_readsCycle_63 : decode cX8_readsCycle 63 = .ok (.aload_n 0, 1) := by decide +kernel
theorem dX8_readsCycle_64 : decode cX8_readsCycle 64 = .ok (.invokevirtual 200, 3) := by decide +kernel
theorem dX8_readsCycle_67 : decode cX8_readsCycle 67 = .ok (.bipush 44, 2) := by decide +kernel
theorem dX8_readsCycle_69 : decode cX8_readsCycle 69 = .ok (.if_icmp .ne 7, 3) := by decide +kernel
theorem dX8_readsCycle_72 : decode cX8_readsCycle 72 = .ok (.iconst 1, 1) := by decide +kernel
theorem dX8_readsCycle_73 : decode cX8_readsCycle 73 = .ok (.goto 4, 3) := by decide +kernel
theorem dX8_readsCycle_76 : decode cX8_readsCycle 76 = .ok (.iconst 0, 1) := by decide +kernel
theorem dX8_readsCycle_77 : decode cX8_readsCycle 77 = .ok (.putfield 206, 3) := by decide +kernel
theorem dX8_readsCycle_80 : decode cX8_readsCycle 80 = .ok (.aload_n 0, 1) := by decide +kernel
theorem dX8_readsCycle_81 : decode cX8_readsCycle 81 = .ok (.getfield 206, 3) := by decide +kernel
theorem dX8_readsCycle_84 : decode cX8_readsCycle 84 = .ok (.ifCond .ne 4, 3) := by decide +kernel
theorem dX8_readsCycle_87 : decode cX8_readsCycle 87 = .ok (.return_, 1) := by decide +kernel
theorem dX8_readsCycle_88 : decode cX8_readsCycle 88 = .ok (.iload_n 1, 1) := by decide +kernel
theorem dX8_readsCycle_89 : decode cX8_readsCycle 89 = .ok (.istore_n 2, 1) := by decide +kernel
theorem dX8_readsCycle_90 : decode cX8_readsCycle 90 = .ok (.aload_n 0, 1) := by decide +kernel
theorem dX8_readsCycle_91 : decode cX8_readsCycle 91 = .ok (.getfield 206, 3) := by decide +kernel
theorem dX8_readsCycle_94 : decode cX8_readsCycle 94 = .ok (.ifCond .eq 66, 3) := by decide +kernel
theorem dX8_readsCycle_97 : decode cX8_readsCycle 97 = .ok (.aload_n 0, 1) := by decide +kernel
theorem dX8_readsCycle_98 : decode cX8_readsCycle 98 = .ok (.invokevirtual 200, 3) := by decide +kernel
theorem dX8_readsCycle_101 : decode cX8_readsCycle 101 = .ok (.bipush 44, 2) := by decide +kernel
theorem dX8_readsCycle_103 : decode cX8_readsCycle 103 = .ok (.if_icmp .ne 57, 3) := by decide +kernel
theorem dX8_readsCycle_106 : decode cX8_readsCycle 106 = .ok (.aload_n 0, 1) := by decide +kernel
theorem dX8_readsCycle_107 : decode cX8_readsCycle 107 = .ok (.dup, 1) := by decide +kernel
theorem dX8_readsCycle_108 : decode cX8_readsCycle 108 = .ok (.getfield 194, 3) := by decide +kernel
theorem dX8_readsCycle_111 : decode cX8_readsCycle 111 = .ok (.iconst 1, 1) := by decide +kernel
theorem dX8_readsCycle_112 : decode cX8_readsCycle 112 = .ok (.iadd, 1) := by decide +kernel
theorem dX8_readsCycle_113 : decode cX8_readsCycle 113 = .ok (.putfield 194, 3) := by decide +kernel
theorem dX8_readsCycle_116 : decode cX8_readsCycle 116 = .ok (.aload_n 0, 1) := by decide +kernel
theorem dX8_readsCycle_117 : decode cX8_readsCycle 117 = .ok (.invokevirtual 210, 3) := by decide +kernel
theorem dX8_readsCycle_120 : decode cX8_readsCycle 120 = .ok (.istore_n 3, 1) := by decide +kernel
theorem dX8_readsCycle_121 : decode cX8_readsCycle 121 = .ok (.aload_n 0, 1) := by decide +kernel
theorem dX8_readsCycle_122 : decode cX8_readsCycle 122 = .ok (.getfield 26, 3) := by decide +kernel
theorem dX8_readsCycle_125 : decode cX8_readsCycle 125 = .ok (.iload_n 2, 1) := by decide +kernel
theorem dX8_readsCycle_126 : decode cX8_readsCycle 126 = .ok (.aload_n 0, 1) := by decide +kernel
theorem dX8_readsCycle_127 : decode cX8_readsCycle 127 = .ok (.getfield 206, 3) := by decide +kernel
theorem dX8_readsCycle_130 : decode cX8_readsCycle 130 = .ok (.ifCond .eq 7, 3) := by decide +kernel
theorem dX8_readsCycle_133 : decode cX8_readsCycle 133 = .ok (.iload_n 3, 1) := by decide +kernel
theorem dX8_readsCycle_134 : decode cX8_readsCycle 134 = .ok (.goto 9, 3) := by decide +kernel
theorem dX8_readsCycle_137 : decode cX8_readsCycle 137 = .ok (.aload_n 0, 1) := by decide +kernel
theorem dX8_readsCycle_138 : decode cX8_readsCycle 138 = .ok (.getfield 26, 3) := by decide +kernel
theorem dX8_readsCycle_141 : decode cX8_readsCycle 141 = .ok (.iload_n 2, 1) := by decide +kernel
theorem dX8_readsCycle_142 : decode cX8_readsCycle 142 = .ok (.iaload, 1) := by decide +kernel
theorem dX8_readsCycle_143 : decode cX8_readsCycle 143 = .ok (.iastore, 1) := by decide +kernel
theorem dX8_readsCycle_144 : decode cX8_readsCycle 144 = .ok (.aload_n 0, 1) := by decide +kernel
theorem dX8_readsCycle_145 : decode cX8_readsCycle 145 = .ok (.getfield 206, 3) := by decide +kernel
theorem dX8_readsCycle_148 : decode cX8_readsCycle 148 = .ok (.ifCond .eq 7, 3) := by decide +kernel
theorem dX8_readsCycle_151 : decode cX8_readsCycle 151 = .ok (.iload_n 3, 1) := by decide +kernel
theorem dX8_readsCycle_152 : decode cX8_readsCycle 152 = .ok (.goto 4, 3) := by decide +kernel
theorem dX8_readsCycle_155 : decode cX8_readsCycle 155 = .ok (.iload_n 2, 1) := by decide +kernel
theorem dX8_readsCycle_156 : decode cX8_readsCycle 156 = .ok (.istore_n 2, 1) := by decide +kernel
theorem dX8_readsCycle_157 : decode cX8_readsCycle 157 = .ok (.goto (-67), 3) := by decide +kernel
theorem dX8_readsCycle_160 : decode cX8_readsCycle 160 = .ok (.aload_n 0, 1) := by decide +kernel
theorem dX8_readsCycle_161 : decode cX8_readsCycle 161 = .ok (.aload_n 0, 1) := by decide +kernel
theorem dX8_readsCycle_162 : decode cX8_readsCycle 162 = .ok (.getfield 206, 3) := by decide +kernel
theorem dX8_readsCycle_165 : decode cX8_readsCycle 165 = .ok (.ifCond .eq 16, 3) := by decide +kernel
theorem dX8_readsCycle_168 : decode cX8_readsCycle 168 = .ok (.aload_n 0, 1) := by decide +kernel
theorem dX8_readsCycle_169 : decode cX8_readsCycle 169 = .ok (.invokevirtual 200, 3) := by decide +kernel
theorem dX8_readsCycle_172 : decode cX8_readsCycle 172 = .ok (.bipush 41, 2) := by decide +kernel
theorem dX8_readsCycle_174 : decode cX8_readsCycle 174 = .ok (.if_icmp .ne 7, 3) := by decide +kernel
theorem dX8_readsCycle_177 : decode cX8_readsCycle 177 = .ok (.iconst 1, 1) := by decide +kernel
theorem dX8_readsCycle_178 : decode cX8_readsCycle 178 = .ok (.goto 4, 3) := by decide +kernel
theorem dX8_readsCycle_181 : decode cX8_readsCycle 181 = .ok (.iconst 0, 1) := by decide +kernel
theorem dX8_readsCycle_182 : decode cX8_readsCycle 182 = .ok (.putfield 206, 3) := by decide +kernel
theorem dX8_readsCycle_185 : decode cX8_readsCycle 185 = .ok (.aload_n 0, 1) := by decide +kernel
theorem dX8_readsCycle_186 : decode cX8_readsCycle 186 = .ok (.dup, 1) := by decide +kernel
theorem dX8_readsCycle_187 : decode cX8_readsCycle 187 = .ok (.getfield 194, 3) := by decide +kernel
theorem dX8_readsCycle_190 : decode cX8_readsCycle 190 = .ok (.aload_n 0, 1) := by decide +kernel
theorem dX8_readsCycle_191 : decode cX8_readsCycle 191 = .ok (.getfield 206, 3) := by decide +kernel
theorem dX8_readsCycle_194 : decode cX8_readsCycle 194 = .ok (.ifCond .eq 7, 3) := by decide +kernel
theorem dX8_readsCycle_197 : decode cX8_readsCycle 197 = .ok (.iconst 1, 1) := by decide +kernel
theorem dX8_readsCycle_198 : decode cX8_readsCycle 198 = .ok (.goto 4, 3) := by decide +kernel
theorem dX8_readsCycle_201 : decode cX8_readsCycle 201 = .ok (.iconst 0, 1) := by decide +kernel
theorem dX8_readsCycle_202 : decode cX8_readsCycle 202 = .ok (.iadd, 1) := by decide +kernel
theorem dX8_readsCycle_203 : decode cX8_readsCycle 203 = .ok (.putfield 194, 3) := by decide +kernel
theorem dX8_readsCycle_206 : decode cX8_readsCycle 206 = .ok (.aload_n 0, 1) := by decide +kernel
theorem dX8_readsCycle_207 : decode cX8_readsCycle 207 = .ok (.getfield 26, 3) := by decide +kernel
theorem dX8_readsCycle_210 : decode cX8_readsCycle 210 = .ok (.iload_n 2, 1) := by decide +kernel
theorem dX8_readsCycle_211 : decode cX8_readsCycle 211 = .ok (.aload_n 0, 1) := by decide +kernel
theorem dX8_readsCycle_212 : decode cX8_readsCycle 212 = .ok (.getfield 206, 3) := by decide +kernel
theorem dX8_readsCycle_215 : decode cX8_readsCycle 215 = .ok (.ifCond .eq 7, 3) := by decide +kernel
theorem dX8_readsCycle_218 : decode cX8_readsCycle 218 = .ok (.iload_n 1, 1) := by decide +kernel
theorem dX8_readsCycle_219 : decode cX8_readsCycle 219 = .ok (.goto 9, 3) := by decide +kernel
theorem dX8_readsCycle_222 : decode cX8_readsCycle 222 = .ok (.aload_n 0, 1) := by decide +kernel
theorem dX8_readsCycle_223 : decode cX8_readsCycle 223 = .ok (.getfield 26, 3) := by decide +kernel
theorem dX8_readsCycle_226 : decode cX8_readsCycle 226 = .ok (.iload_n 2, 1) := by decide +kernel
theorem dX8_readsCycle_227 : decode cX8_readsCycle 227 = .ok (.iaload, 1) := by decide +kernel
theorem dX8_readsCycle_228 : decode cX8_readsCycle 228 = .ok (.iastore, 1) := by decide +kernel
theorem dX8_readsCycle_229 : decode cX8_readsCycle 229 = .ok (.return_, 1) := by decide +kernel
theorem dX8_faultAt_0 : decode cX8_faultAt 0 = .ok (.aload_n 0, 1) := by decide +kernel
theorem dX8_faultAt_1 : decode cX8_faultAt 1 = .ok (.iconst 0, 1) := by decide +kernel
theorem dX8_faultAt_2 : decode cX8_faultAt 2 = .ok (.putfield 194, 3) := by decide +kernel
theorem dX8_faultAt_5 : decode cX8_faultAt 5 = .ok (.iconst 0, 1) := by decide +kernel
theorem dX8_faultAt_6 : decode cX8_faultAt 6 = .ok (.istore_n 1, 1) := by decide +kernel
theorem dX8_faultAt_7 : decode cX8_faultAt 7 = .ok (.iload_n 1, 1) := by decide +kernel
theorem dX8_faultAt_8 : decode cX8_faultAt 8 = .ok (.bipush 16, 2) := by decide +kernel
theorem dX8_faultAt_10 : decode cX8_faultAt 10 = .ok (.if_icmp .ge 23, 3) := by decide +kernel
theorem dX8_faultAt_13 : decode cX8_faultAt 13 = .ok (.aload_n 0, 1) := by decide +kernel
theorem dX8_faultAt_14 : decode cX8_faultAt 14 = .ok (.getfield 26, 3) := by decide +kernel
theorem dX8_faultAt_17 : decode cX8_faultAt 17 = .ok (.iload_n 1, 1) := by decide +kernel
theorem dX8_faultAt_18 : decode cX8_faultAt 18 = .ok (.iload_n 1, 1) := by decide +kernel
theorem dX8_faultAt_19 : decode cX8_faultAt 19 = .ok (.iastore, 1) := by decide +kernel
theorem dX8_faultAt_20 : decode cX8_faultAt 20 = .ok (.aload_n 0, 1) := by decide +kernel
theorem dX8_faultAt_21 : decode cX8_faultAt 21 = .ok (.getfield 29, 3) := by decide +kernel
theorem dX8_faultAt_24 : decode cX8_faultAt 24 = .ok (.iload_n 1, 1) := by decide +kernel
theorem dX8_faultAt_25 : decode cX8_faultAt 25 = .ok (.iconst 0, 1) := by decide +kernel
theorem dX8_faultAt_26 : decode cX8_faultAt 26 = .ok (.bastore, 1) := by decide +kernel
theorem dX8_faultAt_27 : decode cX8_faultAt 27 = .ok (.iinc 1 1, 3) := by decide +kernel
theorem dX8_faultAt_30 : decode cX8_faultAt 30 = .ok (.goto (-23), 3) := by decide +kernel
theorem dX8_faultAt_33 : decode cX8_faultAt 33 = .ok (.aload_n 0, 1) := by decide +kernel
theorem dX8_faultAt_34 : decode cX8_faultAt 34 = .ok (.invokevirtual 200, 3) := by decide +kernel
theorem dX8_faultAt_37 : decode cX8_faultAt 37 = .ok (.bipush 101, 2) := by decide +kernel
theorem dX8_faultAt_39 : decode cX8_faultAt 39 = .ok (.if_icmp .ne 18, 3) := by decide +kernel
theorem dX8_faultAt_42 : decode cX8_faultAt 42 = .ok (.aload_n 0, 1) := by decide +kernel
theorem dX8_faultAt_43 : decode cX8_faultAt 43 = .ok (.getfield 90, 3) := by decide +kernel
theorem dX8_faultAt_46 : decode cX8_faultAt 46 = .ok (.iconst 1, 1) := by decide +kernel
theorem dX8_faultAt_47 : decode cX8_faultAt 47 = .ok (.if_icmp .ne 8, 3) := by decide +kernel
theorem dX8_faultAt_50 : decode cX8_faultAt 50 = .ok (.bipush (-6), 2) := by decide +kernel
theorem dX8_faultAt_52 : decode cX8_faultAt 52 = .ok (.goto 4, 3) := by decide +kernel
theorem dX8_faultAt_55 : decode cX8_faultAt 55 = .ok (.iconst 1, 1) := by decide +kernel
theorem dX8_faultAt_56 : decode cX8_faultAt 56 = .ok (.ireturn, 1) := by decide +kernel
theorem dX8_faultAt_57 : decode cX8_faultAt 57 = .ok (.aload_n 0, 1) := by decide +kernel
theorem dX8_faultAt_58 : decode cX8_faultAt 58 = .ok (.invokevirtual 213, 3) := by decide +kernel
theorem dX8_faultAt_61 : decode cX8_faultAt 61 = .ok (.aload_n 0, 1) := by decide +kernel
theorem dX8_faultAt_62 : decode cX8_faultAt 62 = .ok (.getfield 206, 3) := by decide +kernel
theorem dX8_faultAt_65 : decode cX8_faultAt 65 = .ok (.ifCond .eq 21, 3) := by decide +kernel
theorem dX8_faultAt_68 : decode cX8_faultAt 68 = .ok (.aload_n 0, 1) := by decide +kernel
theorem dX8_faultAt_69 : decode cX8_faultAt 69 = .ok (.getfield 194, 3) := by decide +kernel
theorem dX8_faultAt_72 : decode cX8_faultAt 72 = .ok (.aload_n 0, 1) := by decide +kernel
theorem dX8_faultAt_73 : decode cX8_faultAt 73 = .ok (.getfield 90, 3) := by decide +kernel
theorem dX8_faultAt_76 : decode cX8_faultAt 76 = .ok (.if_icmp .ge 10, 3) := by decide +kernel
theorem dX8_faultAt_79 : decode cX8_faultAt 79 = .ok (.aload_n 0, 1) := by decide +kernel
theorem dX8_faultAt_80 : decode cX8_faultAt 80 = .ok (.invokevirtual 213, 3) := by decide +kernel
theorem dX8_faultAt_83 : decode cX8_faultAt 83 = .ok (.goto (-22), 3) := by decide +kernel
theorem dX8_faultAt_86 : decode cX8_faultAt 86 = .ok (.aload_n 0, 1) := by decide +kernel
theorem dX8_faultAt_87 : decode cX8_faultAt 87 = .ok (.getfield 206, 3) := by decide +kernel
theorem dX8_faultAt_90 : decode cX8_faultAt 90 = .ok (.ifCond .eq 8, 3) := by decide +kernel
theorem dX8_faultAt_93 : decode cX8_faultAt 93 = .ok (.bipush (-6), 2) := by decide +kernel
theorem dX8_faultAt_95 : decode cX8_faultAt 95 = .ok (.goto 7, 3) := by decide +kernel
theorem dX8_faultAt_98 : decode cX8_faultAt 98 = .ok (.aload_n 0, 1) := by decide +kernel
theorem dX8_faultAt_99 : decode cX8_faultAt 99 = .ok (.getfield 194, 3) := by decide +kernel
theorem dX8_faultAt_102 : decode cX8_faultAt 102 = .ok (.ireturn, 1) := by decide +kernel
theorem dX8_fault_0 : decode cX8_fault 0 = .ok (.aload_n 0, 1) := by decide +kernel
theorem dX8_fault_1 : decode cX8_fault 1 = .ok (.iconst 0, 1) := by decide +kernel
theorem dX8_fault_2 : decode cX8_fault 2 = .ok (.putfield 53, 3) := by decide +kernel
theorem dX8_fault_5 : decode cX8_fault 5 = .ok (.aload_n 0, 1) := by decide +kernel
theorem dX8_fault_6 : decode cX8_fault 6 = .ok (.invokevirtual 86, 3) := by decide +kernel
theorem dX8_fault_9 : decode cX8_fault 9 = .ok (.ireturn, 1) := by decide +kernel
theorem dX8_undo_0 : decode cX8_undo 0 = .ok (.aload_n 0, 1) := by decide +kernel
theorem dX8_undo_1 : decode cX8_undo 1 = .ok (.iconst 0, 1) := by decide +kernel
theorem dX8_undo_2 : decode cX8_undo 2 = .ok (.putfield 53, 3) := by decide +kernel
theorem dX8_undo_5 : decode cX8_undo 5 = .ok (.aload_n 0, 1) := by decide +kernel
theorem dX8_undo_6 : decode cX8_undo 6 = .ok (.getfield 61, 3) := by decide +kernel
theorem dX8_undo_9 : decode cX8_undo 9 = .ok (.ifCond .ne 6, 3) := by decide +kernel
theorem dX8_undo_12 : decode cX8_undo 12 = .ok (.bipush (-5), 2) := by decide +kernel
theorem dX8_undo_14 : decode cX8_undo 14 = .ok (.ireturn, 1) := by decide +kernel
theorem dX8_undo_15 : decode cX8_undo 15 = .ok (.aload_n 0, 1) := by decide +kernel
theorem dX8_undo_16 : decode cX8_undo 16 = .ok (.dup, 1) := by decide +kernel
theorem dX8_undo_17 : decode cX8_undo 17 = .ok (.getfield 61, 3) := by decide +kernel
theorem dX8_undo_20 : decode cX8_undo 20 = .ok (.iconst 1, 1) := by decide +kernel
theorem dX8_undo_21 : decode cX8_undo 21 = .ok (.isub, 1) := by decide +kernel
theorem dX8_undo_22 : decode cX8_undo 22 = .ok (.putfield 61, 3) := by decide +kernel
theorem dX8_undo_25 : decode cX8_undo 25 = .ok (.iconst 0, 1) := by decide +kernel
theorem dX8_undo_26 : decode cX8_undo 26 = .ok (.istore_n 1, 1) := by decide +kernel
theorem dX8_undo_27 : decode cX8_undo 27 = .ok (.iload_n 1, 1) := by decide +kernel
theorem dX8_undo_28 : decode cX8_undo 28 = .ok (.sipush 130, 3) := by decide +kernel
theorem dX8_undo_31 : decode cX8_undo 31 = .ok (.if_icmp .ge 30, 3) := by decide +kernel
theorem dX8_undo_34 : decode cX8_undo 34 = .ok (.aload_n 0, 1) := by decide +kernel
theorem dX8_undo_35 : decode cX8_undo 35 = .ok (.getfield 7, 3) := by decide +kernel
theorem dX8_undo_38 : decode cX8_undo 38 = .ok (.iload_n 1, 1) := by decide +kernel
theorem dX8_undo_39 : decode cX8_undo 39 = .ok (.aload_n 0, 1) := by decide +kernel
theorem dX8_undo_40 : decode cX8_undo 40 = .ok (.getfield 13, 3) := by decide +kernel
theorem dX8_undo_43 : decode cX8_undo 43 = .ok (.sipush 130, 3) := by decide +kernel
theorem dX8_undo_46 : decode cX8_undo 46 = .ok (.aload_n 0, 1) := by decide +kernel
theorem dX8_undo_47 : decode cX8_undo 47 = .ok (.getfield 61, 3) := by decide +kernel
theorem dX8_undo_50 : decode cX8_undo 50 = .ok (.imul, 1) := by decide +kernel
theorem dX8_undo_51 : decode cX8_undo 51 = .ok (.iload_n 1, 1) := by decide +kernel
theorem dX8_undo_52 : decode cX8_undo 52 = .ok (.iadd, 1) := by decide +kernel
theorem dX8_undo_53 : decode cX8_undo 53 = .ok (.iaload, 1) := by decide +kernel
theorem dX8_undo_54 : decode cX8_undo 54 = .ok (.iastore, 1) := by decide +kernel
theorem dX8_undo_55 : decode cX8_undo 55 = .ok (.iinc 1 1, 3) := by decide +kernel
theorem dX8_undo_58 : decode cX8_undo 58 = .ok (.goto (-31), 3) := by decide +kernel
theorem dX8_undo_61 : decode cX8_undo 61 = .ok (.aload_n 0, 1) := by decide +kernel
theorem dX8_undo_62 : decode cX8_undo 62 = .ok (.getfield 61, 3) := by decide +kernel
theorem dX8_undo_65 : decode cX8_undo 65 = .ok (.ireturn, 1) := by decide +kernel
theorem dX8_save_0 : decode cX8_save 0 = .ok (.aload_n 0, 1) := by decide +kernel
theorem dX8_save_1 : decode cX8_save 1 = .ok (.iconst 0, 1) := by decide +kernel
theorem dX8_save_2 : decode cX8_save 2 = .ok (.putfield 53, 3) := by decide +kernel
theorem dX8_save_5 : decode cX8_save 5 = .ok (.iload_n 1, 1) := by decide +kernel
theorem dX8_save_6 : decode cX8_save 6 = .ok (.iconst 0, 1) := by decide +kernel
theorem dX8_save_7 : decode cX8_save 7 = .ok (.iconst 1, 1) := by decide +kernel
theorem dX8_save_8 : decode cX8_save 8 = .ok (.invokestatic 64, 3) := by decide +kernel
theorem dX8_save_11 : decode cX8_save 11 = .ok (.ifCond .ne 6, 3) := by decide +kernel
theorem dX8_save_14 : decode cX8_save 14 = .ok (.bipush (-2), 2) := by decide +kernel
theorem dX8_save_16 : decode cX8_save 16 = .ok (.ireturn, 1) := by decide +kernel
theorem dX8_save_17 : decode cX8_save 17 = .ok (.iconst 0, 1) := by decide +kernel
theorem dX8_save_18 : decode cX8_save 18 = .ok (.istore_n 2, 1) := by decide +kernel
theorem dX8_save_19 : decode cX8_save 19 = .ok (.iload_n 2, 1) := by decide +kernel
theorem dX8_save_20 : decode cX8_save 20 = .ok (.sipush 130, 3) := by decide +kernel
theorem dX8_save_23 : decode cX8_save 23 = .ok (.if_icmp .ge 27, 3) := by decide +kernel
theorem dX8_save_26 : decode cX8_save 26 = .ok (.aload_n 0, 1) := by decide +kernel
theorem dX8_save_27 : decode cX8_save 27 = .ok (.getfield 16, 3) := by decide +kernel
theorem dX8_save_30 : decode cX8_save 30 = .ok (.sipush 130, 3) := by decide +kernel
theorem dX8_save_33 : decode cX8_save 33 = .ok (.iload_n 1, 1) := by decide +kernel
theorem dX8_save_34 : decode cX8_save 34 = .ok (.imul, 1) := by decide +kernel
theorem dX8_save_35 : decode cX8_save 35 = .ok (.iload_n 2, 1) := by decide +kernel
theorem dX8_save_36 : decode cX8_save 36 = .ok (.iadd, 1) := by decide +kernel
theorem dX8_save_37 : decode cX8_save 37 = .ok (.aload_n 0, 1) := by decide +kernel
theorem dX8_save_38 : decode cX8_save 38 = .ok (.getfield 7, 3) := by decide +kernel
theorem dX8_save_41 : decode cX8_save 41 = .ok (.iload_n 2, 1) := by decide +kernel
theorem dX8_save_42 : decode cX8_save 42 = .ok (.iaload, 1) := by decide +kernel
theorem dX8_save_43 : decode cX8_save 43 = .ok (.iastore, 1) := by decide +kernel
theorem dX8_save_44 : decode cX8_save 44 = .ok (.iinc 2 1, 3) := by decide +kernel
theorem dX8_save_47 : decode cX8_save 47 = .ok (.goto (-28), 3) := by decide +kernel
theorem dX8_save_50 : decode cX8_save 50 = .ok (.aload_n 0, 1) := by decide +kernel
theorem dX8_save_51 : decode cX8_save 51 = .ok (.getfield 19, 3) := by decide +kernel
theorem dX8_save_54 : decode cX8_save 54 = .ok (.iload_n 1, 1) := by decide +kernel
theorem dX8_save_55 : decode cX8_save 55 = .ok (.iconst 1, 1) := by decide +kernel
theorem dX8_save_56 : decode cX8_save 56 = .ok (.bastore, 1) := by decide +kernel
theorem dX8_save_57 : decode cX8_save 57 = .ok (.aload_n 0, 1) := by decide +kernel
theorem dX8_save_58 : decode cX8_save 58 = .ok (.getfield 7, 3) := by decide +kernel
theorem dX8_save_61 : decode cX8_save 61 = .ok (.iconst 1, 1) := by decide +kernel
theorem dX8_save_62 : decode cX8_save 62 = .ok (.iaload, 1) := by decide +kernel
theorem dX8_save_63 : decode cX8_save 63 = .ok (.ireturn, 1) := by decide +kernel
theorem dX8_restore_0 : decode cX8_restore 0 = .ok (.aload_n 0, 1) := by decide +kernel
theorem dX8_restore_1 : decode cX8_restore 1 = .ok (.iconst 0, 1) := by decide +kernel
theorem dX8_restore_2 : decode cX8_restore 2 = .ok (.putfield 53, 3) := by decide +kernel
theorem dX8_restore_5 : decode cX8_restore 5 = .ok (.iload_n 1, 1) := by decide +kernel
theorem dX8_restore_6 : decode cX8_restore 6 = .ok (.iconst 0, 1) := by decide +kernel
theorem dX8_restore_7 : decode cX8_restore 7 = .ok (.iconst 1, 1) := by decide +kernel
theorem dX8_restore_8 : decode cX8_restore 8 = .ok (.invokestatic 64, 3) := by decide +kernel
theorem dX8_restore_11 : decode cX8_restore 11 = .ok (.ifCond .ne 6, 3) := by decide +kernel
theorem dX8_restore_14 : decode cX8_restore 14 = .ok (.bipush (-2), 2) := by decide +kernel
theorem dX8_restore_16 : decode cX8_restore 16 = .ok (.ireturn, 1) := by decide +kernel
theorem dX8_restore_17 : decode cX8_restore 17 = .ok (.aload_n 0, 1) := by decide +kernel
theorem dX8_restore_18 : decode cX8_restore 18 = .ok (.getfield 19, 3) := by decide +kernel
theorem dX8_restore_21 : decode cX8_restore 21 = .ok (.iload_n 1, 1) := by decide +kernel
theorem dX8_restore_22 : decode cX8_restore 22 = .ok (.baload, 1) := by decide +kernel
theorem dX8_restore_23 : decode cX8_restore 23 = .ok (.ifCond .ne 6, 3) := by decide +kernel
theorem dX8_restore_26 : decode cX8_restore 26 = .ok (.bipush (-5), 2) := by decide +kernel
theorem dX8_restore_28 : decode cX8_restore 28 = .ok (.ireturn, 1) := by decide +kernel
theorem dX8_restore_29 : decode cX8_restore 29 = .ok (.aload_n 0, 1) := by decide +kernel
theorem dX8_restore_30 : decode cX8_restore 30 = .ok (.invokevirtual 83, 3) := by decide +kernel
theorem dX8_restore_33 : decode cX8_restore 33 = .ok (.iconst 0, 1) := by decide +kernel
theorem dX8_restore_34 : decode cX8_restore 34 = .ok (.istore_n 2, 1) := by decide +kernel
theorem dX8_restore_35 : decode cX8_restore 35 = .ok (.iload_n 2, 1) := by decide +kernel
theorem dX8_restore_36 : decode cX8_restore 36 = .ok (.sipush 130, 3) := by decide +kernel
theorem dX8_restore_39 : decode cX8_restore 39 = .ok (.if_icmp .ge 27, 3) := by decide +kernel
theorem dX8_restore_42 : decode cX8_restore 42 = .ok (.aload_n 0, 1) := by decide +kernel
theorem dX8_restore_43 : decode cX8_restore 43 = .ok (.getfield 7, 3) := by decide +kernel
theorem dX8_restore_46 : decode cX8_restore 46 = .ok (.iload_n 2, 1) := by decide +kernel
theorem dX8_restore_47 : decode cX8_restore 47 = .ok (.aload_n 0, 1) := by decide +kernel
theorem dX8_restore_48 : decode cX8_restore 48 = .ok (.getfield 16, 3) := by decide +kernel
theorem dX8_restore_51 : decode cX8_restore 51 = .ok (.sipush 130, 3) := by decide +kernel
theorem dX8_restore_54 : decode cX8_restore 54 = .ok (.iload_n 1, 1) := by decide +kernel
theorem dX8_restore_55 : decode cX8_restore 55 = .ok (.imul, 1) := by decide +kernel
theorem dX8_restore_56 : decode cX8_restore 56 = .ok (.iload_n 2, 1) := by decide +kernel
theorem dX8_restore_57 : decode cX8_restore 57 = .ok (.iadd, 1) := by decide +kernel
theorem dX8_restore_58 : decode cX8_restore 58 = .ok (.iaload, 1) := by decide +kernel
theorem dX8_restore_59 : decode cX8_restore 59 = .ok (.iastore, 1) := by decide +kernel
theorem dX8_restore_60 : decode cX8_restore 60 = .ok (.iinc 2 1, 3) := by decide +kernel
theorem dX8_restore_63 : decode cX8_restore 63 = .ok (.goto (-28), 3) := by decide +kernel
theorem dX8_restore_66 : decode cX8_restore 66 = .ok (.aload_n 0, 1) := by decide +kernel
theorem dX8_restore_67 : decode cX8_restore 67 = .ok (.getfield 7, 3) := by decide +kernel
theorem dX8_restore_70 : decode cX8_restore 70 = .ok (.iconst 1, 1) := by decide +kernel
theorem dX8_restore_71 : decode cX8_restore 71 = .ok (.iaload, 1) := by decide +kernel
theorem dX8_restore_72 : decode cX8_restore 72 = .ok (.ireturn, 1) := by decide +kernel
