theorem dJ6_bitCount_0f7a4_0 : decode cJ6_bitCount_0f7a4 0 = .ok (.iload_n 0, 1) := by decide +kernel
theorem dJ6_bitCount_0f7a4_1 : decode cJ6_bitCount_0f7a4 1 = .ok (.iload_n 0, 1) := by decide +kernel
theorem dJ6_bitCount_0f7a4_2 : decode cJ6_bitCount_0f7a4 2 = .ok (.iconst 1, 1) := by decide +kernel
theorem dJ6_bitCount_0f7a4_3 : decode cJ6_bitCount_0f7a4 3 = .ok (.iushr, 1) := by decide +kernel
theorem dJ6_bitCount_0f7a4_4 : decode cJ6_bitCount_0f7a4 4 = .ok (.ldc_w 265, 3) := by decide +kernel
theorem dJ6_bitCount_0f7a4_7 : decode cJ6_bitCount_0f7a4 7 = .ok (.iand, 1) := by decide +kernel
theorem dJ6_bitCount_0f7a4_8 : decode cJ6_bitCount_0f7a4 8 = .ok (.isub, 1) := by decide +kernel
theorem dJ6_bitCount_0f7a4_9 : decode cJ6_bitCount_0f7a4 9 = .ok (.istore_n 0, 1) := by decide +kernel
theorem dJ6_bitCount_0f7a4_10 : decode cJ6_bitCount_0f7a4 10 = .ok (.iload_n 0, 1) := by decide +kernel
theorem dJ6_bitCount_0f7a4_11 : decode cJ6_bitCount_0f7a4 11 = .ok (.ldc_w 266, 3) := by decide +kernel
theorem dJ6_bitCount_0f7a4_14 : decode cJ6_bitCount_0f7a4 14 = .ok (.iand, 1) := by decide +kernel
theorem dJ6_bitCount_0f7a4_15 : decode cJ6_bitCount_0f7a4 15 = .ok (.iload_n 0, 1) := by decide +kernel
theorem dJ6_bitCount_0f7a4_16 : decode cJ6_bitCount_0f7a4 16 = .ok (.iconst 2, 1) := by decide +kernel
theorem dJ6_bitCount_0f7a4_17 : decode cJ6_bitCount_0f7a4 17 = .ok (.iushr, 1) := by decide +kernel
theorem dJ6_bitCount_0f7a4_18 : decode cJ6_bitCount_0f7a4 18 = .ok (.ldc_w 266, 3) := by decide +kernel
theorem dJ6_bitCount_0f7a4_21 : decode cJ6_bitCount_0f7a4 21 = .ok (.iand, 1) := by decide +kernel
theorem dJ6_bitCount_0f7a4_22 : decode cJ6_bitCount_0f7a4 22 = .ok (.iadd, 1) := by decide +kernel
theorem dJ6_bitCount_0f7a4_23 : decode cJ6_bitCount_0f7a4 23 = .ok (.istore_n 0, 1) := by decide +kernel
theorem dJ6_bitCount_0f7a4_24 : decode cJ6_bitCount_0f7a4 24 = .ok (.iload_n 0, 1) := by decide +kernel
theorem dJ6_bitCount_0f7a4_25 : decode cJ6_bitCount_0f7a4 25 = .ok (.iload_n 0, 1) := by decide +kernel
theorem dJ6_bitCount_0f7a4_26 : decode cJ6_bitCount_0f7a4 26 = .ok (.iconst 4, 1) := by decide +kernel
theorem dJ6_bitCount_0f7a4_27 : decode cJ6_bitCount_0f7a4 27 = .ok (.iushr, 1) := by decide +kernel
theorem dJ6_bitCount_0f7a4_28 : decode cJ6_bitCount_0f7a4 28 = .ok (.iadd, 1) := by decide +kernel
theorem dJ6_bitCount_0f7a4_29 : decode cJ6_bitCount_0f7a4 29 = .ok (.ldc_w 267, 3) := by decide +kernel
theorem dJ6_bitCount_0f7a4_32 : decode cJ6_bitCount_0f7a4 32 = .ok (.iand, 1) := by decide +kernel
theorem dJ6_bitCount_0f7a4_33 : decode cJ6_bitCount_0f7a4 33 = .ok (.istore_n 0, 1) := by decide +kernel
theorem dJ6_bitCount_0f7a4_34 : decode cJ6_bitCount_0f7a4 34 = .ok (.iload_n 0, 1) := by decide +kernel
theorem dJ6_bitCount_0f7a4_35 : decode cJ6_bitCount_0f7a4 35 = .ok (.iload_n 0, 1) := by decide +kernel
theorem dJ6_bitCount_0f7a4_36 : decode cJ6_bitCount_0f7a4 36 = .ok (.bipush 8, 2) := by decide +kernel
theorem dJ6_bitCount_0f7a4_38 : decode cJ6_bitCount_0f7a4 38 = .ok (.iushr, 1) := by decide +kernel
theorem dJ6_bitCount_0f7a4_39 : decode cJ6_bitCount_0f7a4 39 = .ok (.iadd, 1) := by decide +kernel
theorem dJ6_bitCount_0f7a4_40 : decode cJ6_bitCount_0f7a4 40 = .ok (.istore_n 0, 1) := by decide +kernel
theorem dJ6_bitCount_0f7a4_41 : decode cJ6_bitCount_0f7a4 41 = .ok (.iload_n 0, 1) := by decide +kernel
theorem dJ6_bitCount_0f7a4_42 : decode cJ6_bitCount_0f7a4 42 = .ok (.iload_n 0, 1) := by decide +kernel
theorem dJ6_bitCount_0f7a4_43 : decode cJ6_bitCount_0f7a4 43 = .ok (.bipush 16, 2) := by decide +kernel
theorem dJ6_bitCount_0f7a4_45 : decode cJ6_bitCount_0f7a4 45 = .ok (.iushr, 1) := by decide +kernel
theorem dJ6_bitCount_0f7a4_46 : decode cJ6_bitCount_0f7a4 46 = .ok (.iadd, 1) := by decide +kernel
theorem dJ6_bitCount_0f7a4_47 : decode cJ6_bitCount_0f7a4 47 = .ok (.istore_n 0, 1) := by decide +kernel
theorem dJ6_bitCount_0f7a4_48 : decode cJ6_bitCount_0f7a4 48 = .ok (.iload_n 0, 1) := by decide +kernel
theorem dJ6_bitCount_0f7a4_49 : decode cJ6_bitCount_0f7a4 49 = .ok (.bipush 63, 2) := by decide +kernel
theorem dJ6_bitCount_0f7a4_51 : decode cJ6_bitCount_0f7a4 51 = .ok (.iand, 1) := by decide +kernel
theorem dJ6_bitCount_0f7a4_52 : decode cJ6_bitCount_0f7a4 52 = .ok (.ireturn, 1) := by decide +kernel
theorem dJ9_floorMod_7cf53_0 : decode cJ9_floorMod_7cf53 0 = .ok (.iload_n 0, 1) := by decide +kernel
theorem dJ9_floorMod_7cf53_1 : decode cJ9_floorMod_7cf53 1 = .ok (.iload_n 1, 1) := by decide +kernel
theorem dJ9_floorMod_7cf53_2 : decode cJ9_floorMod_7cf53 2 = .ok (.irem, 1) := by decide +kernel
theorem dJ9_floorMod_7cf53_3 : decode cJ9_floorMod_7cf53 3 = .ok (.istore_n 2, 1) := by decide +kernel
theorem dJ9_floorMod_7cf53_4 : decode cJ9_floorMod_7cf53 4 = .ok (.iload_n 0, 1) := by decide +kernel
theorem dJ9_floorMod_7cf53_5 : decode cJ9_floorMod_7cf53 5 = .ok (.iload_n 1, 1) := by decide +kernel
theorem dJ9_floorMod_7cf53_6 : decode cJ9_floorMod_7cf53 6 = .ok (.ixor, 1) := by decide +kernel
theorem dJ9_floorMod_7cf53_7 : decode cJ9_floorMod_7cf53 7 = .ok (.ifCond .ge 11, 3) := by decide +kernel
theorem dJ9_floorMod_7cf53_10 : decode cJ9_floorMod_7cf53 10 = .ok (.iload_n 2, 1) := by decide +kernel
theorem dJ9_floorMod_7cf53_11 : decode cJ9_floorMod_7cf53 11 = .ok (.ifCond .eq 7, 3) := by decide +kernel
theorem dJ9_floorMod_7cf53_14 : decode cJ9_floorMod_7cf53 14 = .ok (.iload_n 2, 1) := by decide +kernel
theorem dJ9_floorMod_7cf53_15 : decode cJ9_floorMod_7cf53 15 = .ok (.iload_n 1, 1) := by decide +kernel
theorem dJ9_floorMod_7cf53_16 : decode cJ9_floorMod_7cf53 16 = .ok (.iadd, 1) := by decide +kernel
theorem dJ9_floorMod_7cf53_17 : decode cJ9_floorMod_7cf53 17 = .ok (.ireturn, 1) := by decide +kernel
theorem dJ9_floorMod_7cf53_18 : decode cJ9_floorMod_7cf53 18 = .ok (.iload_n 2, 1) := by decide +kernel
theorem dJ9_floorMod_7cf53_19 : decode cJ9_floorMod_7cf53 19 = .ok (.ireturn, 1) := by decide +kernel
theorem dL_cell_0 : decode cL_cell 0 = .ok (.iload_n 1, 1) := by decide +kernel
theorem dL_cell_1 : decode cL_cell 1 = .ok (.aload_n 0, 1) := by decide +kernel
theorem dL_cell_2 : decode cL_cell 2 = .ok (.arraylength, 1) := by decide +kernel
theorem dL_cell_3 : decode cL_cell 3 = .ok (.if_icmp .ge 9, 3) := by decide +kernel
theorem dL_cell_6 : decode cL_cell 6 = .ok (.aload_n 0, 1) := by decide +kernel
theorem dL_cell_7 : decode cL_cell 7 = .ok (.iload_n 1, 1) := by decide +kernel
theorem dL_cell_8 : decode cL_cell 8 = .ok (.iaload, 1) := by decide +kernel
theorem dL_cell_9 : decode cL_cell 9 = .ok (.goto 15, 3) := by decide +kernel
theorem dL_cell_12 : decode cL_cell 12 = .ok (.sipush 7919, 3) := by decide +kernel
theorem dL_cell_15 : decode cL_cell 15 = .ok (.iload_n 1, 1) := by decide +kernel
theorem dL_cell_16 : decode cL_cell 16 = .ok (.iconst 3, 1) := by decide +kernel
theorem dL_cell_17 : decode cL_cell 17 = .ok (.iadd, 1) := by decide +kernel
theorem dL_cell_18 : decode cL_cell 18 = .ok (.imul, 1) := by decide +kernel
theorem dL_cell_19 : decode cL_cell 19 = .ok (.iload_n 1, 1) := by decide +kernel
theorem dL_cell_20 : decode cL_cell 20 = .ok (.bipush 11, 2) := by decide +kernel
theorem dL_cell_22 : decode cL_cell 22 = .ok (.iadd, 1) := by decide +kernel
theorem dL_cell_23 : decode cL_cell 23 = .ok (.imul, 1) := by decide +kernel
theorem dL_cell_24 : decode cL_cell 24 = .ok (.ireturn, 1) := by decide +kernel
theorem dL_low_0 : decode cL_low 0 = .ok (.iload_n 0, 1) := by decide +kernel
theorem dL_low_1 : decode cL_low 1 = .ok (.ldc 7, 2) := by decide +kernel
theorem dL_low_3 : decode cL_low 3 = .ok (.iand, 1) := by decide +kernel
theorem dL_low_4 : decode cL_low 4 = .ok (.iload_n 1, 1) := by decide +kernel
theorem dL_low_5 : decode cL_low 5 = .ok (.irem, 1) := by decide +kernel
theorem dL_low_6 : decode cL_low 6 = .ok (.ireturn, 1) := by decide +kernel
theorem dL_told_0 : decode cL_told 0 = .ok (.ldc2_w 8, 3) := by decide +kernel
theorem dL_told_3 : decode cL_told 3 = .ok (.lstore_n 1, 1) := by decide +kernel
theorem dL_told_4 : decode cL_told 4 = .ok (.iconst 0, 1) := by decide +kernel
theorem dL_told_5 : decode cL_told 5 = .ok (.istore_n 3, 1) := by decide +kernel
theorem dL_told_6 : decode cL_told 6 = .ok (.iload_n 3, 1) := by decide +kernel
theorem dL_told_7 : decode cL_told 7 = .ok (.iconst 5, 1) := by decide +kernel
theorem dL_told_8 : decode cL_told 8 = .ok (.if_icmp .ge 22, 3) := by decide +kernel
theorem dL_told_11 : decode cL_told 11 = .ok (.ldc2_w 10, 3) := by decide +kernel
theorem dL_told_14 : decode cL_told 14 = .ok (.lload_n 1, 1) := by decide +kernel
theorem dL_told_15 : decode cL_told 15 = .ok (.lmul, 1) := by decide +kernel
theorem dL_told_16 : decode cL_told 16 = .ok (.aload_n 0, 1) := by decide +kernel
theorem dL_told_17 : decode cL_told 17 = .ok (.iload_n 3, 1) := by decide +kernel
theorem dL_told_18 : decode cL_told 18 = .ok (.invokevirtual 12, 3) := by decide +kernel
theorem dL_told_21 : decode cL_told 21 = .ok (.i2l, 1) := by decide +kernel
theorem dL_told_22 : decode cL_told 22 = .ok (.ladd, 1) := by decide +kernel
theorem dL_told_23 : decode cL_told 23 = .ok (.lstore_n 1, 1) := by decide +kernel
theorem dL_told_24 : decode cL_told 24 = .ok (.iinc 3 1, 3) := by decide +kernel
theorem dL_told_27 : decode cL_told 27 = .ok (.goto (-21), 3) := by decide +kernel
theorem dL_told_30 : decode cL_told 30 = .ok (.iconst 0, 1) := by decide +kernel
theorem dL_told_31 : decode cL_told 31 = .ok (.istore_n 3, 1) := by decide +kernel
theorem dL_told_32 : decode cL_told 32 = .ok (.iload_n 3, 1) := by decide +kernel
theorem dL_told_33 : decode cL_told 33 = .ok (.aload_n 0, 1) := by decide +kernel
theorem dL_told_34 : decode cL_told 34 = .ok (.iconst 0, 1) := by decide +kernel
theorem dL_told_35 : decode cL_told 35 = .ok (.invokevirtual 12, 3) := by decide +kernel
theorem dL_told_38 : decode cL_told 38 = .ok (.if_icmp .ge 71, 3) := by decide +kernel
theorem dL_told_41 : decode cL_told 41 = .ok (.ldc2_w 10, 3) := by decide +kernel
theorem dL_told_44 : decode cL_told 44 = .ok (.ldc2_w 10, 3) := by decide +kernel
theorem dL_told_47 : decode cL_told 47 = .ok (.lload_n 1, 1) := by decide +kernel
theorem dL_told_48 : decode cL_told 48 = .ok (.lmul, 1) := by decide +kernel
theorem dL_told_49 : decode cL_told 49 = .ok (.aload_n 0, 1) := by decide +kernel
theorem dL_told_50 : decode cL_told 50 = .ok (.iload_n 3, 1) := by decide +kernel
theorem dL_told_51 : decode cL_told 51 = .ok (.invokevirtual 18, 3) := by decide +kernel
theorem dL_told_54 : decode cL_told 54 = .ok (.i2l, 1) := by decide +kernel
theorem dL_told_55 : decode cL_told 55 = .ok (.ladd, 1) := by decide +kernel
theorem dL_told_56 : decode cL_told 56 = .ok (.lmul, 1) := by decide +kernel
theorem dL_told_57 : decode cL_told 57 = .ok (.aload_n 0, 1) := by decide +kernel
theorem dL_told_58 : decode cL_told 58 = .ok (.bipush (-6), 2) := by decide +kernel
theorem dL_told_60 : decode cL_told 60 = .ok (.iconst 1, 1) := by decide +kernel
theorem dL_told_61 : decode cL_told 61 = .ok (.iload_n 3, 1) := by decide +kernel
theorem dL_told_62 : decode cL_told 62 = .ok (.invokevirtual 21, 3) := by decide +kernel
theorem dL_told_65 : decode cL_told 65 = .ok (.i2l, 1) := by decide +kernel
theorem dL_told_66 : decode cL_told 66 = .ok (.ladd, 1) := by decide +kernel
theorem dL_told_67 : decode cL_told 67 = .ok (.lstore_n 1, 1) := by decide +kernel
theorem dL_told_68 : decode cL_told 68 = .ok (.iconst 0, 1) := by decide +kernel
theorem dL_told_69 : decode cL_told 69 = .ok (.istore 4, 2) := by decide +kernel
theorem dL_told_71 : decode cL_told 71 = .ok (.iload 4, 2) := by decide +kernel
theorem dL_told_73 : decode cL_told 73 = .ok (.aload_n 0, 1) := by decide +kernel
theorem dL_told_74 : decode cL_told 74 = .ok (.iconst 1, 1) := by decide +kernel
theorem dL_told_75 : decode cL_told 75 = .ok (.invokevirtual 12, 3) := by decide +kernel
theorem dL_told_78 : decode cL_told 78 = .ok (.if_icmp .ge 25, 3) := by decide +kernel
theorem dL_told_81 : decode cL_told 81 = .ok (.ldc2_w 10, 3) := by decide +kernel
theorem dL_told_84 : decode cL_told 84 = .ok (.lload_n 1, 1) := by decide +kernel
theorem dL_told_85 : decode cL_told 85 = .ok (.lmul, 1) := by decide +kernel
theorem dL_told_86 : decode cL_told 86 = .ok (.aload_n 0, 1) := by decide +kernel
theorem dL_told_87 : decode cL_told 87 = .ok (.iload 4, 2) := by decide +kernel
theorem dL_told_89 : decode cL_told 89 = .ok (.iconst 1, 1) := by decide +kernel
theorem dL_told_90 : decode cL_told 90 = .ok (.iload_n 3, 1) := by decide +kernel
theorem dL_told_91 : decode cL_told 91 = .ok (.invokevirtual 21, 3) := by decide +kernel
theorem dL_told_94 : decode cL_told 94 = .ok (.i2l, 1) := by decide +kernel
theorem dL_told_95 : decode cL_told 95 = .ok (.ladd, 1) := by decide +kernel
theorem dL_told_96 : decode cL_told 96 = .ok (.lstore_n 1, 1) := by decide +kernel
theorem dL_told_97 : decode cL_told 97 = .ok (.iinc 4 1, 3) := by decide +kernel
theorem dL_told_100 : decode cL_told 100 = .ok (.goto (-29), 3) := by decide +kernel
theorem dL_told_103 : decode cL_told 103 = .ok (.iinc 3 1, 3) := by decide +kernel
theorem dL_told_106 : decode cL_told 106 = .ok (.goto (-74), 3) := by decide +kernel
theorem dL_told_109 : decode cL_told 109 = .ok (.ldc2_w 10, 3) := by decide +kernel
theorem dL_told_112 : decode cL_told 112 = .ok (.ldc2_w 10, 3) := by decide +kernel
theorem dL_told_115 : decode cL_told 115 = .ok (.lload_n 1, 1) := by decide +kernel
theorem dL_told_116 : decode cL_told 116 = .ok (.lmul, 1) := by decide +kernel
theorem dL_told_117 : decode cL_told 117 = .ok (.aload_n 0, 1) := by decide +kernel
theorem dL_told_118 : decode cL_told 118 = .ok (.invokevirtual 25, 3) := by decide +kernel
theorem dL_told_121 : decode cL_told 121 = .ok (.i2l, 1) := by decide +kernel
theorem dL_told_122 : decode cL_told 122 = .ok (.ladd, 1) := by decide +kernel
theorem dL_told_123 : decode cL_told 123 = .ok (.lmul, 1) := by decide +kernel
theorem dL_told_124 : decode cL_told 124 = .ok (.aload_n 0, 1) := by decide +kernel
theorem dL_told_125 : decode cL_told 125 = .ok (.invokevirtual 29, 3) := by decide +kernel
theorem dL_told_128 : decode cL_told 128 = .ok (.ladd, 1) := by decide +kernel
theorem dL_told_129 : decode cL_told 129 = .ok (.lreturn, 1) := by decide +kernel
theorem dL_act_0 : decode cL_act 0 = .ok (.aload_n 0, 1) := by decide +kernel
theorem dL_act_1 : decode cL_act 1 = .ok (.iconst 1, 1) := by decide +kernel
theorem dL_act_2 : decode cL_act 2 = .ok (.invokevirtual 12, 3) := by decide +kernel
theorem dL_act_5 : decode cL_act 5 = .ok (.istore_n 3, 1) := by decide +kernel
theorem dL_act_6 : decode cL_act 6 = .ok (.iload_n 2, 1) := by decide +kernel
theorem dL_act_7 : decode cL_act 7 = .ok (.iload_n 3, 1) := by decide +kernel
theorem dL_act_8 : decode cL_act 8 = .ok (.iconst 1, 1) := by decide +kernel
theorem dL_act_9 : decode cL_act 9 = .ok (.iadd, 1) := by decide +kernel
theorem dL_act_10 : decode cL_act 10 = .ok (.invokestatic 33, 3) := by decide +kernel
theorem dL_act_13 : decode cL_act 13 = .ok (.istore 4, 2) := by decide +kernel
theorem dL_act_15 : decode cL_act 15 = .ok (.iload_n 1, 1) := by decide +kernel
theorem dL_act_16 : decode cL_act 16 = .ok (.bipush 15, 2) := by decide +kernel
theorem dL_act_18 : decode cL_act 18 = .ok (.iand, 1) := by decide +kernel
theorem dL_act_19 : decode cL_act 19 = .ok (.tableswitch 199 0 14 #[73, 99, 115, 135, 135, 135, 140, 147, 147, 154, 154, 154, 170, 170, 180], 73) := by decide +kernel
theorem dL_act_92 : decode cL_act 92 = .ok (.iload_n 2, 1) := by decide +kernel
theorem dL_act_93 : decode cL_act 93 = .ok (.iconst 3, 1) := by decide +kernel
theorem dL_act_94 : decode cL_act 94 = .ok (.iand, 1) := by decide +kernel
theorem dL_act_95 : decode cL_act 95 = .ok (.ifCond .le 10, 3) := by decide +kernel
theorem dL_act_98 : decode cL_act 98 = .ok (.aload_n 0, 1) := by decide +kernel
theorem dL_act_99 : decode cL_act 99 = .ok (.invokevirtual 39, 3) := by decide +kernel
theorem dL_act_102 : decode cL_act 102 = .ok (.goto 15, 3) := by decide +kernel
theorem dL_act_105 : decode cL_act 105 = .ok (.aload_n 0, 1) := by decide +kernel
theorem dL_act_106 : decode cL_act 106 = .ok (.iload_n 2, 1) := by decide +kernel
theorem dL_act_107 : decode cL_act 107 = .ok (.iconst 2, 1) := by decide +kernel
theorem dL_act_108 : decode cL_act 108 = .ok (.ishr, 1) := by decide +kernel
theorem dL_act_109 : decode cL_act 109 = .ok (.bipush 17, 2) := by decide +kernel
theorem dL_act_111 : decode cL_act 111 = .ok (.invokestatic 33, 3) := by decide +kernel
theorem dL_act_114 : decode cL_act 114 = .ok (.invokevirtual 42, 3) := by decide +kernel
theorem dL_act_117 : decode cL_act 117 = .ok (.ireturn, 1) := by decide +kernel
theorem dL_act_118 : decode cL_act 118 = .ok (.aload_n 0, 1) := by decide +kernel
theorem dL_act_119 : decode cL_act 119 = .ok (.iload 4, 2) := by decide +kernel
theorem dL_act_121 : decode cL_act 121 = .ok (.iload_n 2, 1) := by decide +kernel
theorem dL_act_122 : decode cL_act 122 = .ok (.iconst 4, 1) := by decide +kernel
theorem dL_act_123 : decode cL_act 123 = .ok (.ishr, 1) := by decide +kernel
theorem dL_act_124 : decode cL_act 124 = .ok (.iload_n 3, 1) := by decide +kernel
theorem dL_act_125 : decode cL_act 125 = .ok (.iconst 1, 1) := by decide +kernel
theorem dL_act_126 : decode cL_act 126 = .ok (.iadd, 1) := by decide +kernel
theorem dL_act_127 : decode cL_act 127 = .ok (.invokestatic 33, 3) := by decide +kernel
theorem dL_act_130 : decode cL_act 130 = .ok (.invokevirtual 45, 3) := by decide +kernel
theorem dL_act_133 : decode cL_act 133 = .ok (.ireturn, 1) := by decide +kernel
theorem dL_act_134 : decode cL_act 134 = .ok (.aload_n 0, 1) := by decide +kernel
theorem dL_act_135 : decode cL_act 135 = .ok (.iload 4, 2) := by decide +kernel
theorem dL_act_137 : decode cL_act 137 = .ok (.iload_n 2, 1) := by decide +kernel
theorem dL_act_138 : decode cL_act 138 = .ok (.iconst 4, 1) := by decide +kernel
theorem dL_act_139 : decode cL_act 139 = .ok (.ishr, 1) := by decide +kernel
theorem dL_act_140 : decode cL_act 140 = .ok (.sipush 2003, 3) := by decide +kernel
theorem dL_act_143 : decode cL_act 143 = .ok (.invokestatic 33, 3) := by decide +kernel
theorem dL_act_146 : decode cL_act 146 = .ok (.sipush 1001, 3) := by decide +kernel
theorem dL_act_149 : decode cL_act 149 = .ok (.isub, 1) := by decide +kernel
theorem dL_act_150 : decode cL_act 150 = .ok (.invokevirtual 48, 3) := by decide +kernel
theorem dL_act_153 : decode cL_act 153 = .ok (.ireturn, 1) := by decide +kernel
theorem dL_act_154 : decode cL_act 154 = .ok (.aload_n 0, 1) := by decide +kernel
theorem dL_act_155 : decode cL_act 155 = .ok (.invokevirtual 51, 3) := by decide +kernel
theorem dL_act_158 : decode cL_act 158 = .ok (.ireturn, 1) := by decide +kernel
theorem dL_act_159 : decode cL_act 159 = .ok (.aload_n 0, 1) := by decide +kernel
theorem dL_act_160 : decode cL_act 160 = .ok (.iload 4, 2) := by decide +kernel
theorem dL_act_162 : decode cL_act 162 = .ok (.invokevirtual 54, 3) := by decide +kernel
theorem dL_act_165 : decode cL_act 165 = .ok (.ireturn, 1) := by decide +kernel
theorem dL_act_166 : decode cL_act 166 = .ok (.aload_n 0, 1) := by decide +kernel
theorem dL_act_167 : decode cL_act 167 = .ok (.iload 4, 2) := by decide +kernel
theorem dL_act_169 : decode cL_act 169 = .ok (.invokevirtual 57, 3) := by decide +kernel
theorem dL_act_172 : decode cL_act 172 = .ok (.ireturn, 1) := by decide +kernel
theorem dL_act_173 : decode cL_act 173 = .ok (.aload_n 0, 1) := by decide +kernel
theorem dL_act_174 : decode cL_act 174 = .ok (.iload_n 2, 1) := by decide +kernel
theorem dL_act_175 : decode cL_act 175 = .ok (.aload_n 0, 1) := by decide +kernel
theorem dL_act_176 : decode cL_act 176 = .ok (.iconst 0, 1) := by decide +kernel
theorem dL_act_177 : decode cL_act 177 = .ok (.invokevirtual 12, 3) := by decide +kernel
theorem dL_act_180 : decode cL_act 180 = .ok (.iconst 1, 1) := by decide +kernel
theorem dL_act_181 : decode cL_act 181 = .ok (.iadd, 1) := by decide +kernel
theorem dL_act_182 : decode cL_act 182 = .ok (.invokestatic 33, 3) := by decide +kernel
theorem dL_act_185 : decode cL_act 185 = .ok (.invokevirtual 60, 3) := by decide +kernel
theorem dL_act_188 : decode cL_act 188 = .ok (.ireturn, 1) := by decide +kernel
theorem dL_act_189 : decode cL_act 189 = .ok (.aload_n 0, 1) := by decide +kernel
theorem dL_act_190 : decode cL_act 190 = .ok (.iload_n 2, 1) := by decide +kernel
theorem dL_act_191 : decode cL_act 191 = .ok (.iconst 3, 1) := by decide +kernel
theorem dL_act_192 : decode cL_act 192 = .ok (.invokestatic 33, 3) := by decide +kernel
theorem dL_act_195 : decode cL_act 195 = .ok (.invokevirtual 63, 3) := by decide +kernel
theorem dL_act_198 : decode cL_act 198 = .ok (.ireturn, 1) := by decide +kernel
theorem dL_act_199 : decode cL_act 199 = .ok (.iload_n 2, 1) := by decide +kernel
theorem dL_act_200 : decode cL_act 200 = .ok (.iconst 3, 1) := by decide +kernel
theorem dL_act_201 : decode cL_act 201 = .ok (.iand, 1) := by decide +kernel
theorem dL_act_202 : decode cL_act 202 = .ok (.ifCond .ne 11, 3) := by decide +kernel
theorem dL_act_205 : decode cL_act 205 = .ok (.aload_n 0, 1) := by decide +kernel
theorem dL_act_206 : decode cL_act 206 = .ok (.iconst 0, 1) := by decide +kernel
theorem dL_act_207 : decode cL_act 207 = .ok (.invokevirtual 66, 3) := by decide +kernel
theorem dL_act_210 : decode cL_act 210 = .ok (.goto 7, 3) := by decide +kernel
theorem dL_act_213 : decode cL_act 213 = .ok (.aload_n 0, 1) := by decide +kernel
theorem dL_act_214 : decode cL_act 214 = .ok (.invokevirtual 69, 3) := by decide +kernel
theorem dL_act_217 : decode cL_act 217 = .ok (.ireturn, 1) := by decide +kernel
theorem dL_act_218 : decode cL_act 218 = .ok (.aload_n 0, 1) := by decide +kernel
theorem dL_act_219 : decode cL_act 219 = .ok (.invokevirtual 69, 3) := by decide +kernel
theorem dL_act_222 : decode cL_act 222 = .ok (.ireturn, 1) := by decide +kernel
theorem dL_holds_0 : decode cL_holds 0 = .ok (.aload_n 0, 1) := by decide +kernel
theorem dL_holds_1 : decode cL_holds 1 = .ok (.iconst 0, 1) := by decide +kernel
theorem dL_holds_2 : decode cL_holds 2 = .ok (.invokevirtual 12, 3) := by decide +kernel
theorem dL_holds_5 : decode cL_holds 5 = .ok (.istore_n 2, 1) := by decide +kernel
theorem dL_holds_6 : decode cL_holds 6 = .ok (.iconst 0, 1) := by decide +kernel
theorem dL_holds_7 : decode cL_holds 7 = .ok (.istore_n 3, 1) := by decide +kernel
theorem dL_holds_8 : decode cL_holds 8 = .ok (.aload_n 0, 1) := by decide +kernel
theorem dL_holds_9 : decode cL_holds 9 = .ok (.iconst 1, 1) := by decide +kernel
theorem dL_holds_10 : decode cL_holds 10 = .ok (.invokevirtual 12, 3) := by decide +kernel
theorem dL_holds_13 : decode cL_holds 13 = .ok (.istore 4, 2) := by decide +kernel
theorem dL_holds_15 : decode cL_holds 15 = .ok (.iconst 0, 1) := by decide +kernel
theorem dL_holds_16 : decode cL_holds 16 = .ok (.istore 5, 2) := by decide +kernel
theorem dL_holds_18 : decode cL_holds 18 = .ok (.iload 5, 2) := by decide +kernel
theorem dL_holds_20 : decode cL_holds 20 = .ok (.iload_n 2, 1) := by decide +kernel
theorem dL_holds_21 : decode cL_holds 21 = .ok (.if_icmp .ge 20, 3) := by decide +kernel
theorem dL_holds_24 : decode cL_holds 24 = .ok (.iload_n 3, 1) := by decide +kernel
theorem dL_holds_25 : decode cL_holds 25 = .ok (.iconst 1, 1) := by decide +kernel
theorem dL_holds_26 : decode cL_holds 26 = .ok (.aload_n 0, 1) := by decide +kernel
theorem dL_holds_27 : decode cL_holds 27 = .ok (.iload 5, 2) := by decide +kernel
theorem dL_holds_29 : decode cL_holds 29 = .ok (.invokevirtual 18, 3) := by decide +kernel
theorem dL_holds_32 : decode cL_holds 32 = .ok (.ishl, 1) := by decide +kernel
theorem dL_holds_33 : decode cL_holds 33 = .ok (.ior, 1) := by decide +kernel
theorem dL_holds_34 : decode cL_holds 34 = .ok (.istore_n 3, 1) := by decide +kernel
theorem dL_holds_35 : decode cL_holds 35 = .ok (.iinc 5 1, 3) := by decide +kernel
theorem dL_holds_38 : decode cL_holds 38 = .ok (.goto (-20), 3) := by decide +kernel
theorem dL_holds_41 : decode cL_holds 41 = .ok (.iload_n 1, 1) := by decide +kernel
theorem dL_holds_42 : decode cL_holds 42 = .ok (.bipush 41, 2) := by decide +kernel
theorem dL_holds_44 : decode cL_holds 44 = .ok (.invokestatic 33, 3) := by decide +kernel
theorem dL_holds_47 : decode cL_holds 47 = .ok (.bipush 20, 2) := by decide +kernel
theorem dL_holds_49 : decode cL_holds 49 = .ok (.isub, 1) := by decide +kernel
theorem dL_holds_50 : decode cL_holds 50 = .ok (.istore 5, 2) := by decide +kernel
theorem dL_holds_52 : decode cL_holds 52 = .ok (.iconst (-1), 1) := by decide +kernel
theorem dL_holds_53 : decode cL_holds 53 = .ok (.istore 6, 2) := by decide +kernel
theorem dL_holds_55 : decode cL_holds 55 = .ok (.iload 6, 2) := by decide +kernel
theorem dL_holds_57 : decode cL_holds 57 = .ok (.iload 4, 2) := by decide +kernel
theorem dL_holds_59 : decode cL_holds 59 = .ok (.if_icmp .ge 316, 3) := by decide +kernel
theorem dL_holds_62 : decode cL_holds 62 = .ok (.iload 6, 2) := by decide +kernel
theorem dL_holds_64 : decode cL_holds 64 = .ok (.ifCond .ge 8, 3) := by decide +kernel
theorem dL_holds_67 : decode cL_holds 67 = .ok (.bipush (-6), 2) := by decide +kernel
theorem dL_holds_69 : decode cL_holds 69 = .ok (.goto 5, 3) := by decide +kernel
theorem dL_holds_72 : decode cL_holds 72 = .ok (.iload 6, 2) := by decide +kernel
theorem dL_holds_74 : decode cL_holds 74 = .ok (.istore 7, 2) := by decide +kernel
theorem dL_holds_76 : decode cL_holds 76 = .ok (.aload_n 0, 1) := by decide +kernel
theorem dL_holds_77 : decode cL_holds 77 = .ok (.iload 7, 2) := by decide +kernel
theorem dL_holds_79 : decode cL_holds 79 = .ok (.iconst 0, 1) := by decide +kernel
theorem dL_holds_80 : decode cL_holds 80 = .ok (.invokevirtual 72, 3) := by decide +kernel
theorem dL_holds_83 : decode cL_holds 83 = .ok (.istore 8, 2) := by decide +kernel
theorem dL_holds_85 : decode cL_holds 85 = .ok (.aload_n 0, 1) := by decide +kernel
theorem dL_holds_86 : decode cL_holds 86 = .ok (.iload 7, 2) := by decide +kernel
theorem dL_holds_88 : decode cL_holds 88 = .ok (.iconst 5, 1) := by decide +kernel
theorem dL_holds_89 : decode cL_holds 89 = .ok (.invokevirtual 72, 3) := by decide +kernel
theorem dL_holds_92 : decode cL_holds 92 = .ok (.istore 9, 2) := by decide +kernel
theorem dL_holds_94 : decode cL_holds 94 = .ok (.iconst 0, 1) := by decide +kernel
theorem dL_holds_95 : decode cL_holds 95 = .ok (.istore 10, 2) := by decide +kernel
theorem dL_holds_97 : decode cL_holds 97 = .ok (.iload 10, 2) := by decide +kernel
theorem dL_holds_99 : decode cL_holds 99 = .ok (.iload_n 2, 1) := by decide +kernel
theorem dL_holds_100 : decode cL_holds 100 = .ok (.if_icmp .ge 76, 3) := by decide +kernel
theorem dL_holds_103 : decode cL_holds 103 = .ok (.aload_n 0, 1) := by decide +kernel
theorem dL_holds_104 : decode cL_holds 104 = .ok (.iload 7, 2) := by decide +kernel
theorem dL_holds_106 : decode cL_holds 106 = .ok (.iload 8, 2) := by decide +kernel
theorem dL_holds_108 : decode cL_holds 108 = .ok (.iload 10, 2) := by decide +kernel
theorem dL_holds_110 : decode cL_holds 110 = .ok (.invokevirtual 21, 3) := by decide +kernel
theorem dL_holds_113 : decode cL_holds 113 = .ok (.iload 10, 2) := by decide +kernel
theorem dL_holds_115 : decode cL_holds 115 = .ok (.if_icmp .ne 53, 3) := by decide +kernel
theorem dL_holds_118 : decode cL_holds 118 = .ok (.aload_n 0, 1) := by decide +kernel
theorem dL_holds_119 : decode cL_holds 119 = .ok (.iload 7, 2) := by decide +kernel
theorem dL_holds_121 : decode cL_holds 121 = .ok (.iload 5, 2) := by decide +kernel
theorem dL_holds_123 : decode cL_holds 123 = .ok (.ineg, 1) := by decide +kernel
theorem dL_holds_124 : decode cL_holds 124 = .ok (.aload_n 0, 1) := by decide +kernel
theorem dL_holds_125 : decode cL_holds 125 = .ok (.iload 7, 2) := by decide +kernel
theorem dL_holds_127 : decode cL_holds 127 = .ok (.iload 5, 2) := by decide +kernel
theorem dL_holds_129 : decode cL_holds 129 = .ok (.iload 10, 2) := by decide +kernel
theorem dL_holds_131 : decode cL_holds 131 = .ok (.invokevirtual 21, 3) := by decide +kernel
theorem dL_holds_134 : decode cL_holds 134 = .ok (.invokevirtual 21, 3) := by decide +kernel
theorem dL_holds_137 : decode cL_holds 137 = .ok (.iload 10, 2) := by decide +kernel
theorem dL_holds_139 : decode cL_holds 139 = .ok (.if_icmp .ne 29, 3) := by decide +kernel
theorem dL_holds_142 : decode cL_holds 142 = .ok (.aload_n 0, 1) := by decide +kernel
theorem dL_holds_143 : decode cL_holds 143 = .ok (.iload 7, 2) := by decide +kernel
theorem dL_holds_145 : decode cL_holds 145 = .ok (.iload 5, 2) := by decide +kernel
theorem dL_holds_147 : decode cL_holds 147 = .ok (.iload 8, 2) := by decide +kernel
theorem dL_holds_149 : decode cL_holds 149 = .ok (.iadd, 1) := by decide +kernel
theorem dL_holds_150 : decode cL_holds 150 = .ok (.iload 10, 2) := by decide +kernel
theorem dL_holds_152 : decode cL_holds 152 = .ok (.invokevirtual 21, 3) := by decide +kernel
theorem dL_holds_155 : decode cL_holds 155 = .ok (.aload_n 0, 1) := by decide +kernel
theorem dL_holds_156 : decode cL_holds 156 = .ok (.iload 7, 2) := by decide +kernel
theorem dL_holds_158 : decode cL_holds 158 = .ok (.iload 5, 2) := by decide +kernel
theorem dL_holds_160 : decode cL_holds 160 = .ok (.iload 10, 2) := by decide +kernel
theorem dL_holds_162 : decode cL_holds 162 = .ok (.invokevirtual 21, 3) := by decide +kernel
theorem dL_holds_165 : decode cL_holds 165 = .ok (.if_icmp .eq 5, 3) := by decide +kernel
theorem dL_holds_168 : decode cL_holds 168 = .ok (.iconst 0, 1) := by decide +kernel
theorem dL_holds_169 : decode cL_holds 169 = .ok (.ireturn, 1) := by decide +kernel
theorem dL_holds_170 : decode cL_holds 170 = .ok (.iinc 10 1, 3) := by decide +kernel
theorem dL_holds_173 : decode cL_holds 173 = .ok (.goto (-76), 3) := by decide +kernel
theorem dL_holds_176 : decode cL_holds 176 = .ok (.iconst 0, 1) := by decide +kernel
theorem dL_holds_177 : decode cL_holds 177 = .ok (.istore 10, 2) := by decide +kernel
theorem dL_holds_179 : decode cL_holds 179 = .ok (.iload 10, 2) := by decide +kernel
theorem dL_holds_181 : decode cL_holds 181 = .ok (.iload_n 2, 1) := by decide +kernel
theorem dL_holds_182 : decode cL_holds 182 = .ok (.if_icmp .ge 108, 3) := by decide +kernel
theorem dL_holds_185 : decode cL_holds 185 = .ok (.iload 6, 2) := by decide +kernel
theorem dL_holds_187 : decode cL_holds 187 = .ok (.ifCond .lt 103, 3) := by decide +kernel
theorem dL_holds_190 : decode cL_holds 190 = .ok (.iconst 1, 1) := by decide +kernel
theorem dL_holds_191 : decode cL_holds 191 = .ok (.istore 11, 2) := by decide +kernel
theorem dL_holds_193 : decode cL_holds 193 = .ok (.iconst 0, 1) := by decide +kernel
theorem dL_holds_194 : decode cL_holds 194 = .ok (.istore 12, 2) := by decide +kernel
theorem dL_holds_196 : decode cL_holds 196 = .ok (.iload 12, 2) := by decide +kernel
theorem dL_holds_198 : decode cL_holds 198 = .ok (.iload_n 2, 1) := by decide +kernel
theorem dL_holds_199 : decode cL_holds 199 = .ok (.if_icmp .ge 43, 3) := by decide +kernel
theorem dL_holds_202 : decode cL_holds 202 = .ok (.iload 11, 2) := by decide +kernel
theorem dL_holds_204 : decode cL_holds 204 = .ok (.ifCond .eq 29, 3) := by decide +kernel
theorem dL_holds_207 : decode cL_holds 207 = .ok (.aload_n 0, 1) := by decide +kernel
theorem dL_holds_208 : decode cL_holds 208 = .ok (.iload 6, 2) := by decide +kernel
theorem dL_holds_210 : decode cL_holds 210 = .ok (.iload 10, 2) := by decide +kernel
theorem dL_holds_212 : decode cL_holds 212 = .ok (.iload 12, 2) := by decide +kernel
theorem dL_holds_214 : decode cL_holds 214 = .ok (.invokevirtual 75, 3) := by decide +kernel
theorem dL_holds_217 : decode cL_holds 217 = .ok (.aload_n 0, 1) := by decide +kernel
theorem dL_holds_218 : decode cL_holds 218 = .ok (.iload 6, 2) := by decide +kernel
theorem dL_holds_220 : decode cL_holds 220 = .ok (.iconst 1, 1) := by decide +kernel
theorem dL_holds_221 : decode cL_holds 221 = .ok (.iload 12, 2) := by decide +kernel
theorem dL_holds_223 : decode cL_holds 223 = .ok (.invokevirtual 21, 3) := by decide +kernel
theorem dL_holds_226 : decode cL_holds 226 = .ok (.if_icmp .ne 7, 3) := by decide +kernel
theorem dL_holds_229 : decode cL_holds 229 = .ok (.iconst 1, 1) := by decide +kernel
theorem dL_holds_230 : decode cL_holds 230 = .ok (.goto 4, 3) := by decide +kernel
theorem dL_holds_233 : decode cL_holds 233 = .ok (.iconst 0, 1) := by decide +kernel
theorem dL_holds_234 : decode cL_holds 234 = .ok (.istore 11, 2) := by decide +kernel
theorem dL_holds_236 : decode cL_holds 236 = .ok (.iinc 12 1, 3) := by decide +kernel
theorem dL_holds_239 : decode cL_holds 239 = .ok (.goto (-43), 3) := by decide +kernel
theorem dL_holds_242 : decode cL_holds 242 = .ok (.iload 11, 2) := by decide +kernel
theorem dL_holds_244 : decode cL_holds 244 = .ok (.iload 9, 2) := by decide +kernel
theorem dL_holds_246 : decode cL_holds 246 = .ok (.iload 10, 2) := by decide +kernel
theorem dL_holds_248 : decode cL_holds 248 = .ok (.ishr, 1) := by decide +kernel
theorem dL_holds_249 : decode cL_holds 249 = .ok (.iconst 1, 1) := by decide +kernel
theorem dL_holds_250 : decode cL_holds 250 = .ok (.iand, 1) := by decide +kernel
theorem dL_holds_251 : decode cL_holds 251 = .ok (.iconst 1, 1) := by decide +kernel
theorem dL_holds_252 : decode cL_holds 252 = .ok (.if_icmp .ne 7, 3) := by decide +kernel
theorem dL_holds_255 : decode cL_holds 255 = .ok (.iconst 1, 1) := by decide +kernel
theorem dL_holds_256 : decode cL_holds 256 = .ok (.goto 4, 3) := by decide +kernel
theorem dL_holds_259 : decode cL_holds 259 = .ok (.iconst 0, 1) := by decide +kernel
theorem dL_holds_260 : decode cL_holds 260 = .ok (.if_icmp .ne 22, 3) := by decide +kernel
theorem dL_holds_263 : decode cL_holds 263 = .ok (.iload 11, 2) := by decide +kernel
theorem dL_holds_265 : decode cL_holds 265 = .ok (.ifCond .eq 19, 3) := by decide +kernel
theorem dL_holds_268 : decode cL_holds 268 = .ok (.iload 9, 2) := by decide +kernel
theorem dL_holds_270 : decode cL_holds 270 = .ok (.iload_n 2, 1) := by decide +kernel
theorem dL_holds_271 : decode cL_holds 271 = .ok (.iload 10, 2) := by decide +kernel
theorem dL_holds_273 : decode cL_holds 273 = .ok (.isub, 1) := by decide +kernel
theorem dL_holds_274 : decode cL_holds 274 = .ok (.iload_n 2, 1) := by decide +kernel
theorem dL_holds_275 : decode cL_holds 275 = .ok (.irem, 1) := by decide +kernel
theorem dL_holds_276 : decode cL_holds 276 = .ok (.ishr, 1) := by decide +kernel
theorem dL_holds_277 : decode cL_holds 277 = .ok (.iconst 1, 1) := by decide +kernel
theorem dL_holds_278 : decode cL_holds 278 = .ok (.iand, 1) := by decide +kernel
theorem dL_holds_279 : decode cL_holds 279 = .ok (.ifCond .ne 5, 3) := by decide +kernel
theorem dL_holds_282 : decode cL_holds 282 = .ok (.iconst 0, 1) := by decide +kernel
theorem dL_holds_283 : decode cL_holds 283 = .ok (.ireturn, 1) := by decide +kernel
theorem dL_holds_284 : decode cL_holds 284 = .ok (.iinc 10 1, 3) := by decide +kernel
theorem dL_holds_287 : decode cL_holds 287 = .ok (.goto (-108), 3) := by decide +kernel
theorem dL_holds_290 : decode cL_holds 290 = .ok (.iconst 0, 1) := by decide +kernel
theorem dL_holds_291 : decode cL_holds 291 = .ok (.istore 10, 2) := by decide +kernel
theorem dL_holds_293 : decode cL_holds 293 = .ok (.iload 10, 2) := by decide +kernel
theorem dL_holds_295 : decode cL_holds 295 = .ok (.iload 4, 2) := by decide +kernel
theorem dL_holds_297 : decode cL_holds 297 = .ok (.if_icmp .ge 30, 3) := by decide +kernel
theorem dL_holds_300 : decode cL_holds 300 = .ok (.aload_n 0, 1) := by decide +kernel
theorem dL_holds_301 : decode cL_holds 301 = .ok (.iload 7, 2) := by decide +kernel
theorem dL_holds_303 : decode cL_holds 303 = .ok (.iload 10, 2) := by decide +kernel
theorem dL_holds_305 : decode cL_holds 305 = .ok (.invokevirtual 78, 3) := by decide +kernel
theorem dL_holds_308 : decode cL_holds 308 = .ok (.aload_n 0, 1) := by decide +kernel
theorem dL_holds_309 : decode cL_holds 309 = .ok (.iload 10, 2) := by decide +kernel
theorem dL_holds_311 : decode cL_holds 311 = .ok (.iload 7, 2) := by decide +kernel
theorem dL_holds_313 : decode cL_holds 313 = .ok (.invokevirtual 78, 3) := by decide +kernel
theorem dL_holds_316 : decode cL_holds 316 = .ok (.if_icmp .eq 5, 3) := by decide +kernel
theorem dL_holds_319 : decode cL_holds 319 = .ok (.iconst 0, 1) := by decide +kernel
theorem dL_holds_320 : decode cL_holds 320 = .ok (.ireturn, 1) := by decide +kernel
theorem dL_holds_321 : decode cL_holds 321 = .ok (.iinc 10 1, 3) := by decide +kernel
theorem dL_holds_324 : decode cL_holds 324 = .ok (.goto (-31), 3) := by decide +kernel
theorem dL_holds_327 : decode cL_holds 327 = .ok (.aload_n 0, 1) := by decide +kernel
theorem dL_holds_328 : decode cL_holds 328 = .ok (.iload 7, 2) := by decide +kernel
theorem dL_holds_330 : decode cL_holds 330 = .ok (.invokevirtual 81, 3) := by decide +kernel
theorem dL_holds_333 : decode cL_holds 333 = .ok (.iload 8, 2) := by decide +kernel
theorem dL_holds_335 : decode cL_holds 335 = .ok (.i2l, 1) := by decide +kernel
theorem dL_holds_336 : decode cL_holds 336 = .ok (.lcmp, 1) := by decide +kernel
theorem dL_holds_337 : decode cL_holds 337 = .ok (.ifCond .lt 30, 3) := by decide +kernel
theorem dL_holds_340 : decode cL_holds 340 = .ok (.aload_n 0, 1) := by decide +kernel
theorem dL_holds_341 : decode cL_holds 341 = .ok (.iload 7, 2) := by decide +kernel
theorem dL_holds_343 : decode cL_holds 343 = .ok (.iload 7, 2) := by decide +kernel
theorem dL_holds_345 : decode cL_holds 345 = .ok (.invokevirtual 78, 3) := by decide +kernel
theorem dL_holds_348 : decode cL_holds 348 = .ok (.iconst 1, 1) := by decide +kernel
theorem dL_holds_349 : decode cL_holds 349 = .ok (.if_icmp .ne 18, 3) := by decide +kernel
theorem dL_holds_352 : decode cL_holds 352 = .ok (.iload 9, 2) := by decide +kernel
theorem dL_holds_354 : decode cL_holds 354 = .ok (.iconst 1, 1) := by decide +kernel
theorem dL_holds_355 : decode cL_holds 355 = .ok (.iand, 1) := by decide +kernel
theorem dL_holds_356 : decode cL_holds 356 = .ok (.ifCond .eq 11, 3) := by decide +kernel
theorem dL_holds_359 : decode cL_holds 359 = .ok (.iload 8, 2) := by decide +kernel
theorem dL_holds_361 : decode cL_holds 361 = .ok (.sipush 140, 3) := by decide +kernel
theorem dL_holds_364 : decode cL_holds 364 = .ok (.if_icmp .le 5, 3) := by decide +kernel
theorem dL_holds_367 : decode cL_holds 367 = .ok (.iconst 0, 1) := by decide +kernel
theorem dL_holds_368 : decode cL_holds 368 = .ok (.ireturn, 1) := by decide +kernel
theorem dL_holds_369 : decode cL_holds 369 = .ok (.iinc 6 1, 3) := by decide +kernel
theorem dL_holds_372 : decode cL_holds 372 = .ok (.goto (-317), 3) := by decide +kernel
theorem dL_holds_375 : decode cL_holds 375 = .ok (.aload_n 0, 1) := by decide +kernel
theorem dL_holds_376 : decode cL_holds 376 = .ok (.iconst 3, 1) := by decide +kernel
theorem dL_holds_377 : decode cL_holds 377 = .ok (.invokevirtual 12, 3) := by decide +kernel
theorem dL_holds_380 : decode cL_holds 380 = .ok (.iconst 1, 1) := by decide +kernel
theorem dL_holds_381 : decode cL_holds 381 = .ok (.if_icmp .ne 7, 3) := by decide +kernel
theorem dL_holds_384 : decode cL_holds 384 = .ok (.iconst 1, 1) := by decide +kernel
theorem dL_holds_385 : decode cL_holds 385 = .ok (.goto 4, 3) := by decide +kernel
theorem dL_holds_388 : decode cL_holds 388 = .ok (.iconst 0, 1) := by decide +kernel
theorem dL_holds_389 : decode cL_holds 389 = .ok (.istore 6, 2) := by decide +kernel
theorem dL_holds_391 : decode cL_holds 391 = .ok (.iload_n 3, 1) := by decide +kernel
theorem dL_holds_392 : decode cL_holds 392 = .ok (.iconst 1, 1) := by decide +kernel
theorem dL_holds_393 : decode cL_holds 393 = .ok (.iload_n 2, 1) := by decide +kernel
theorem dL_holds_394 : decode cL_holds 394 = .ok (.ishl, 1) := by decide +kernel
theorem dL_holds_395 : decode cL_holds 395 = .ok (.iconst 1, 1) := by decide +kernel
theorem dL_holds_396 : decode cL_holds 396 = .ok (.isub, 1) := by decide +kernel
theorem dL_holds_397 : decode cL_holds 397 = .ok (.if_icmp .ne 64, 3) := by decide +kernel
theorem dL_holds_400 : decode cL_holds 400 = .ok (.iload 6, 2) := by decide +kernel
theorem dL_holds_402 : decode cL_holds 402 = .ok (.aload_n 0, 1) := by decide +kernel
theorem dL_holds_403 : decode cL_holds 403 = .ok (.iconst 2, 1) := by decide +kernel
theorem dL_holds_404 : decode cL_holds 404 = .ok (.invokevirtual 12, 3) := by decide +kernel
theorem dL_holds_407 : decode cL_holds 407 = .ok (.iload_n 3, 1) := by decide +kernel
theorem dL_holds_408 : decode cL_holds 408 = .ok (.if_icmp .ne 7, 3) := by decide +kernel
theorem dL_holds_411 : decode cL_holds 411 = .ok (.iconst 1, 1) := by decide +kernel
theorem dL_holds_412 : decode cL_holds 412 = .ok (.goto 4, 3) := by decide +kernel
theorem dL_holds_415 : decode cL_holds 415 = .ok (.iconst 0, 1) := by decide +kernel
theorem dL_holds_416 : decode cL_holds 416 = .ok (.if_icmp .ne 45, 3) := by decide +kernel
theorem dL_holds_419 : decode cL_holds 419 = .ok (.iload 6, 2) := by decide +kernel
theorem dL_holds_421 : decode cL_holds 421 = .ok (.aload_n 0, 1) := by decide +kernel
theorem dL_holds_422 : decode cL_holds 422 = .ok (.invokevirtual 29, 3) := by decide +kernel
theorem dL_holds_425 : decode cL_holds 425 = .ok (.lconst 0, 1) := by decide +kernel
theorem dL_holds_426 : decode cL_holds 426 = .ok (.lcmp, 1) := by decide +kernel
theorem dL_holds_427 : decode cL_holds 427 = .ok (.ifCond .ne 7, 3) := by decide +kernel
theorem dL_holds_430 : decode cL_holds 430 = .ok (.iconst 1, 1) := by decide +kernel
theorem dL_holds_431 : decode cL_holds 431 = .ok (.goto 4, 3) := by decide +kernel
theorem dL_holds_434 : decode cL_holds 434 = .ok (.iconst 0, 1) := by decide +kernel
theorem dL_holds_435 : decode cL_holds 435 = .ok (.if_icmp .ne 26, 3) := by decide +kernel
theorem dL_holds_438 : decode cL_holds 438 = .ok (.iload 6, 2) := by decide +kernel
theorem dL_holds_440 : decode cL_holds 440 = .ok (.aload_n 0, 1) := by decide +kernel
theorem dL_holds_441 : decode cL_holds 441 = .ok (.invokevirtual 25, 3) := by decide +kernel
theorem dL_holds_444 : decode cL_holds 444 = .ok (.ldc 85, 2) := by decide +kernel
theorem dL_holds_446 : decode cL_holds 446 = .ok (.if_icmp .ne 7, 3) := by decide +kernel
theorem dL_holds_449 : decode cL_holds 449 = .ok (.iconst 1, 1) := by decide +kernel
theorem dL_holds_450 : decode cL_holds 450 = .ok (.goto 4, 3) := by decide +kernel
theorem dL_holds_453 : decode cL_holds 453 = .ok (.iconst 0, 1) := by decide +kernel
theorem dL_holds_454 : decode cL_holds 454 = .ok (.if_icmp .ne 7, 3) := by decide +kernel
theorem dL_holds_457 : decode cL_holds 457 = .ok (.iconst 1, 1) := by decide +kernel
theorem dL_holds_458 : decode cL_holds 458 = .ok (.goto 4, 3) := by decide +kernel
theorem dL_holds_461 : decode cL_holds 461 = .ok (.iconst 0, 1) := by decide +kernel
theorem dL_holds_462 : decode cL_holds 462 = .ok (.ireturn, 1) := by decide +kernel
theorem dL_isTrick_0 : decode cL_isTrick 0 = .ok (.aload_n 0, 1) := by decide +kernel
theorem dL_isTrick_1 : decode cL_isTrick 1 = .ok (.iconst 1, 1) := by decide +kernel
theorem dL_isTrick_2 : decode cL_isTrick 2 = .ok (.invokevirtual 86, 3) := by decide +kernel
theorem dL_isTrick_5 : decode cL_isTrick 5 = .ok (.pop, 1) := by decide +kernel
theorem dL_isTrick_6 : decode cL_isTrick 6 = .ok (.aload_n 0, 1) := by decide +kernel
theorem dL_isTrick_7 : decode cL_isTrick 7 = .ok (.aload_n 0, 1) := by decide +kernel
theorem dL_isTrick_8 : decode cL_isTrick 8 = .ok (.iconst 0, 1) := by decide +kernel
theorem dL_isTrick_9 : decode cL_isTrick 9 = .ok (.invokevirtual 12, 3) := by decide +kernel
theorem dL_isTrick_12 : decode cL_isTrick 12 = .ok (.invokevirtual 42, 3) := by decide +kernel
theorem dL_isTrick_15 : decode cL_isTrick 15 = .ok (.pop, 1) := by decide +kernel
theorem dL_isTrick_16 : decode cL_isTrick 16 = .ok (.aload_n 0, 1) := by decide +kernel
theorem dL_isTrick_17 : decode cL_isTrick 17 = .ok (.iconst 4, 1) := by decide +kernel
theorem dL_isTrick_18 : decode cL_isTrick 18 = .ok (.invokevirtual 12, 3) := by decide +kernel
theorem dL_isTrick_21 : decode cL_isTrick 21 = .ok (.ifCond .ne 7, 3) := by decide +kernel
theorem dL_isTrick_24 : decode cL_isTrick 24 = .ok (.iconst 1, 1) := by decide +kernel
theorem dL_isTrick_25 : decode cL_isTrick 25 = .ok (.goto 4, 3) := by decide +kernel
theorem dL_isTrick_28 : decode cL_isTrick 28 = .ok (.iconst 0, 1) := by decide +kernel
theorem dL_isTrick_29 : decode cL_isTrick 29 = .ok (.istore_n 2, 1) := by decide +kernel
theorem dL_isTrick_30 : decode cL_isTrick 30 = .ok (.iconst 0, 1) := by decide +kernel
theorem dL_isTrick_31 : decode cL_isTrick 31 = .ok (.istore_n 3, 1) := by decide +kernel
theorem dL_isTrick_32 : decode cL_isTrick 32 = .ok (.iload_n 3, 1) := by decide +kernel
theorem dL_isTrick_33 : decode cL_isTrick 33 = .ok (.bipush 6, 2) := by decide +kernel
theorem dL_isTrick_35 : decode cL_isTrick 35 = .ok (.if_icmp .ge 85, 3) := by decide +kernel
theorem dL_isTrick_38 : decode cL_isTrick 38 = .ok (.iload_n 1, 1) := by decide +kernel
theorem dL_isTrick_39 : decode cL_isTrick 39 = .ok (.iconst 2, 1) := by decide +kernel
theorem dL_isTrick_40 : decode cL_isTrick 40 = .ok (.iload_n 3, 1) := by decide +kernel
theorem dL_isTrick_41 : decode cL_isTrick 41 = .ok (.imul, 1) := by decide +kernel
theorem dL_isTrick_42 : decode cL_isTrick 42 = .ok (.ishr, 1) := by decide +kernel
theorem dL_isTrick_43 : decode cL_isTrick 43 = .ok (.iconst 3, 1) := by decide +kernel
theorem dL_isTrick_44 : decode cL_isTrick 44 = .ok (.iand, 1) := by decide +kernel
theorem dL_isTrick_45 : decode cL_isTrick 45 = .ok (.istore 4, 2) := by decide +kernel
theorem dL_isTrick_47 : decode cL_isTrick 47 = .ok (.iload 4, 2) := by decide +kernel
theorem dL_isTrick_49 : decode cL_isTrick 49 = .ok (.ifCond .ne 22, 3) := by decide +kernel
theorem dL_isTrick_52 : decode cL_isTrick 52 = .ok (.aload_n 0, 1) := by decide +kernel
theorem dL_isTrick_53 : decode cL_isTrick 53 = .ok (.iload_n 1, 1) := by decide +kernel
theorem dL_isTrick_54 : decode cL_isTrick 54 = .ok (.bipush 12, 2) := by decide +kernel
theorem dL_isTrick_56 : decode cL_isTrick 56 = .ok (.ishr, 1) := by decide +kernel
theorem dL_isTrick_57 : decode cL_isTrick 57 = .ok (.aload_n 0, 1) := by decide +kernel
theorem dL_isTrick_58 : decode cL_isTrick 58 = .ok (.iconst 0, 1) := by decide +kernel
theorem dL_isTrick_59 : decode cL_isTrick 59 = .ok (.invokevirtual 12, 3) := by decide +kernel
theorem dL_isTrick_62 : decode cL_isTrick 62 = .ok (.invokestatic 33, 3) := by decide +kernel
theorem dL_isTrick_65 : decode cL_isTrick 65 = .ok (.invokevirtual 60, 3) := by decide +kernel
theorem dL_isTrick_68 : decode cL_isTrick 68 = .ok (.goto 24, 3) := by decide +kernel
theorem dL_isTrick_71 : decode cL_isTrick 71 = .ok (.iload 4, 2) := by decide +kernel
theorem dL_isTrick_73 : decode cL_isTrick 73 = .ok (.iconst 3, 1) := by decide +kernel
theorem dL_isTrick_74 : decode cL_isTrick 74 = .ok (.if_icmp .ne 10, 3) := by decide +kernel
theorem dL_isTrick_77 : decode cL_isTrick 77 = .ok (.aload_n 0, 1) := by decide +kernel
theorem dL_isTrick_78 : decode cL_isTrick 78 = .ok (.invokevirtual 69, 3) := by decide +kernel
theorem dL_isTrick_81 : decode cL_isTrick 81 = .ok (.goto 11, 3) := by decide +kernel
theorem dL_isTrick_84 : decode cL_isTrick 84 = .ok (.aload_n 0, 1) := by decide +kernel
theorem dL_isTrick_85 : decode cL_isTrick 85 = .ok (.iload 4, 2) := by decide +kernel
theorem dL_isTrick_87 : decode cL_isTrick 87 = .ok (.iconst 1, 1) := by decide +kernel
theorem dL_isTrick_88 : decode cL_isTrick 88 = .ok (.isub, 1) := by decide +kernel
theorem dL_isTrick_89 : decode cL_isTrick 89 = .ok (.invokevirtual 63, 3) := by decide +kernel
theorem dL_isTrick_92 : decode cL_isTrick 92 = .ok (.istore 5, 2) := by decide +kernel
theorem dL_isTrick_94 : decode cL_isTrick 94 = .ok (.iload_n 2, 1) := by decide +kernel
theorem dL_isTrick_95 : decode cL_isTrick 95 = .ok (.ifCond .eq 17, 3) := by decide +kernel
theorem dL_isTrick_98 : decode cL_isTrick 98 = .ok (.iload 5, 2) := by decide +kernel
theorem dL_isTrick_100 : decode cL_isTrick 100 = .ok (.aload_n 0, 1) := by decide +kernel
theorem dL_isTrick_101 : decode cL_isTrick 101 = .ok (.iconst 0, 1) := by decide +kernel
theorem dL_isTrick_102 : decode cL_isTrick 102 = .ok (.invokevirtual 18, 3) := by decide +kernel
theorem dL_isTrick_105 : decode cL_isTrick 105 = .ok (.if_icmp .ne 7, 3) := by decide +kernel
theorem dL_isTrick_108 : decode cL_isTrick 108 = .ok (.iconst 1, 1) := by decide +kernel
theorem dL_isTrick_109 : decode cL_isTrick 109 = .ok (.goto 4, 3) := by decide +kernel
theorem dL_isTrick_112 : decode cL_isTrick 112 = .ok (.iconst 0, 1) := by decide +kernel
theorem dL_isTrick_113 : decode cL_isTrick 113 = .ok (.istore_n 2, 1) := by decide +kernel
theorem dL_isTrick_114 : decode cL_isTrick 114 = .ok (.iinc 3 1, 3) := by decide +kernel
theorem dL_isTrick_117 : decode cL_isTrick 117 = .ok (.goto (-85), 3) := by decide +kernel
theorem dL_isTrick_120 : decode cL_isTrick 120 = .ok (.iconst 0, 1) := by decide +kernel
theorem dL_isTrick_121 : decode cL_isTrick 121 = .ok (.istore_n 3, 1) := by decide +kernel
theorem dL_isTrick_122 : decode cL_isTrick 122 = .ok (.iload_n 3, 1) := by decide +kernel
theorem dL_isTrick_123 : decode cL_isTrick 123 = .ok (.aload_n 0, 1) := by decide +kernel
theorem dL_isTrick_124 : decode cL_isTrick 124 = .ok (.iconst 0, 1) := by decide +kernel
theorem dL_isTrick_125 : decode cL_isTrick 125 = .ok (.invokevirtual 12, 3) := by decide +kernel
theorem dL_isTrick_128 : decode cL_isTrick 128 = .ok (.if_icmp .ge 51, 3) := by decide +kernel
theorem dL_isTrick_131 : decode cL_isTrick 131 = .ok (.iload_n 2, 1) := by decide +kernel
theorem dL_isTrick_132 : decode cL_isTrick 132 = .ok (.ifCond .eq 39, 3) := by decide +kernel
theorem dL_isTrick_135 : decode cL_isTrick 135 = .ok (.aload_n 0, 1) := by decide +kernel
theorem dL_isTrick_136 : decode cL_isTrick 136 = .ok (.aload_n 0, 1) := by decide +kernel
theorem dL_isTrick_137 : decode cL_isTrick 137 = .ok (.bipush (-6), 2) := by decide +kernel
theorem dL_isTrick_139 : decode cL_isTrick 139 = .ok (.iconst 1, 1) := by decide +kernel
theorem dL_isTrick_140 : decode cL_isTrick 140 = .ok (.iload_n 3, 1) := by decide +kernel
theorem dL_isTrick_141 : decode cL_isTrick 141 = .ok (.invokevirtual 21, 3) := by decide +kernel
theorem dL_isTrick_144 : decode cL_isTrick 144 = .ok (.invokevirtual 18, 3) := by decide +kernel
theorem dL_isTrick_147 : decode cL_isTrick 147 = .ok (.iload_n 3, 1) := by decide +kernel
theorem dL_isTrick_148 : decode cL_isTrick 148 = .ok (.if_icmp .ne 23, 3) := by decide +kernel
theorem dL_isTrick_151 : decode cL_isTrick 151 = .ok (.aload_n 0, 1) := by decide +kernel
theorem dL_isTrick_152 : decode cL_isTrick 152 = .ok (.iload_n 3, 1) := by decide +kernel
theorem dL_isTrick_153 : decode cL_isTrick 153 = .ok (.invokevirtual 89, 3) := by decide +kernel
theorem dL_isTrick_156 : decode cL_isTrick 156 = .ok (.aload_n 0, 1) := by decide +kernel
theorem dL_isTrick_157 : decode cL_isTrick 157 = .ok (.bipush (-6), 2) := by decide +kernel
theorem dL_isTrick_159 : decode cL_isTrick 159 = .ok (.iconst 1, 1) := by decide +kernel
theorem dL_isTrick_160 : decode cL_isTrick 160 = .ok (.iload_n 3, 1) := by decide +kernel
theorem dL_isTrick_161 : decode cL_isTrick 161 = .ok (.invokevirtual 21, 3) := by decide +kernel
theorem dL_isTrick_164 : decode cL_isTrick 164 = .ok (.if_icmp .ne 7, 3) := by decide +kernel
theorem dL_isTrick_167 : decode cL_isTrick 167 = .ok (.iconst 1, 1) := by decide +kernel
theorem dL_isTrick_168 : decode cL_isTrick 168 = .ok (.goto 4, 3) := by decide +kernel
theorem dL_isTrick_171 : decode cL_isTrick 171 = .ok (.iconst 0, 1) := by decide +kernel
theorem dL_isTrick_172 : decode cL_isTrick 172 = .ok (.istore_n 2, 1) := by decide +kernel
theorem dL_isTrick_173 : decode cL_isTrick 173 = .ok (.iinc 3 1, 3) := by decide +kernel
theorem dL_isTrick_176 : decode cL_isTrick 176 = .ok (.goto (-54), 3) := by decide +kernel
theorem dL_isTrick_179 : decode cL_isTrick 179 = .ok (.aload_n 0, 1) := by decide +kernel
theorem dL_isTrick_180 : decode cL_isTrick 180 = .ok (.invokevirtual 51, 3) := by decide +kernel
theorem dL_isTrick_183 : decode cL_isTrick 183 = .ok (.istore_n 3, 1) := by decide +kernel
theorem dL_isTrick_184 : decode cL_isTrick 184 = .ok (.iload_n 2, 1) := by decide +kernel
theorem dL_isTrick_185 : decode cL_isTrick 185 = .ok (.ifCond .eq 22, 3) := by decide +kernel
theorem dL_isTrick_188 : decode cL_isTrick 188 = .ok (.iload_n 3, 1) := by decide +kernel
theorem dL_isTrick_189 : decode cL_isTrick 189 = .ok (.ifCond .ne 18, 3) := by decide +kernel
theorem dL_isTrick_192 : decode cL_isTrick 192 = .ok (.aload_n 0, 1) := by decide +kernel
theorem dL_isTrick_193 : decode cL_isTrick 193 = .ok (.iconst 0, 1) := by decide +kernel
theorem dL_isTrick_194 : decode cL_isTrick 194 = .ok (.bipush (-6), 2) := by decide +kernel
theorem dL_isTrick_196 : decode cL_isTrick 196 = .ok (.invokevirtual 78, 3) := by decide +kernel
theorem dL_isTrick_199 : decode cL_isTrick 199 = .ok (.iconst 1, 1) := by decide +kernel
theorem dL_isTrick_200 : decode cL_isTrick 200 = .ok (.if_icmp .ne 7, 3) := by decide +kernel
theorem dL_isTrick_203 : decode cL_isTrick 203 = .ok (.iconst 1, 1) := by decide +kernel
theorem dL_isTrick_204 : decode cL_isTrick 204 = .ok (.goto 4, 3) := by decide +kernel
theorem dL_isTrick_207 : decode cL_isTrick 207 = .ok (.iconst 0, 1) := by decide +kernel
theorem dL_isTrick_208 : decode cL_isTrick 208 = .ok (.istore_n 2, 1) := by decide +kernel
theorem dL_isTrick_209 : decode cL_isTrick 209 = .ok (.aload_n 0, 1) := by decide +kernel
theorem dL_isTrick_210 : decode cL_isTrick 210 = .ok (.iconst 1, 1) := by decide +kernel
theorem dL_isTrick_211 : decode cL_isTrick 211 = .ok (.invokevirtual 66, 3) := by decide +kernel
theorem dL_isTrick_214 : decode cL_isTrick 214 = .ok (.pop, 1) := by decide +kernel
theorem dL_isTrick_215 : decode cL_isTrick 215 = .ok (.iload_n 2, 1) := by decide +kernel
theorem dL_isTrick_216 : decode cL_isTrick 216 = .ok (.ireturn, 1) := by decide +kernel
theorem dL_law_0 : decode cL_law 0 = .ok (.new 13, 3) := by decide +kernel
theorem dL_law_3 : decode cL_law 3 = .ok (.dup, 1) := by decide +kernel
theorem dL_law_4 : decode cL_law 4 = .ok (.invokespecial 92, 3) := by decide +kernel
theorem dL_law_7 : decode cL_law 7 = .ok (.astore_n 1, 1) := by decide +kernel
theorem dL_law_8 : decode cL_law 8 = .ok (.aload_n 1, 1) := by decide +kernel
theorem dL_law_9 : decode cL_law 9 = .ok (.invokevirtual 93, 3) := by decide +kernel
theorem dL_law_12 : decode cL_law 12 = .ok (.bipush (-5), 2) := by decide +kernel
theorem dL_law_14 : decode cL_law 14 = .ok (.if_icmp .ne 21, 3) := by decide +kernel
theorem dL_law_17 : decode cL_law 17 = .ok (.aload_n 1, 1) := by decide +kernel
theorem dL_law_18 : decode cL_law 18 = .ok (.iconst 1, 1) := by decide +kernel
theorem dL_law_19 : decode cL_law 19 = .ok (.invokevirtual 66, 3) := by decide +kernel
theorem dL_law_22 : decode cL_law 22 = .ok (.bipush (-5), 2) := by decide +kernel
theorem dL_law_24 : decode cL_law 24 = .ok (.if_icmp .ne 11, 3) := by decide +kernel
theorem dL_law_27 : decode cL_law 27 = .ok (.aload_n 1, 1) := by decide +kernel
theorem dL_law_28 : decode cL_law 28 = .ok (.iconst 0, 1) := by decide +kernel
theorem dL_law_29 : decode cL_law 29 = .ok (.invokevirtual 86, 3) := by decide +kernel
theorem dL_law_32 : decode cL_law 32 = .ok (.ifCond .eq 5, 3) := by decide +kernel
theorem dL_law_35 : decode cL_law 35 = .ok (.iconst 0, 1) := by decide +kernel
theorem dL_law_36 : decode cL_law 36 = .ok (.ireturn, 1) := by decide +kernel
theorem dL_law_37 : decode cL_law 37 = .ok (.iconst 0, 1) := by decide +kernel
theorem dL_law_38 : decode cL_law 38 = .ok (.istore_n 2, 1) := by decide +kernel
theorem dL_law_39 : decode cL_law 39 = .ok (.iload_n 2, 1) := by decide +kernel
theorem dL_law_40 : decode cL_law 40 = .ok (.bipush 32, 2) := by decide +kernel
theorem dL_law_42 : decode cL_law 42 = .ok (.if_icmp .ge 225, 3) := by decide +kernel
theorem dL_law_45 : decode cL_law 45 = .ok (.iload_n 2, 1) := by decide +kernel
theorem dL_law_46 : decode cL_law 46 = .ok (.iconst 4, 1) := by decide +kernel
theorem dL_law_47 : decode cL_law 47 = .ok (.if_icmp .ge 16, 3) := by decide +kernel
theorem dL_law_50 : decode cL_law 50 = .ok (.aload_n 0, 1) := by decide +kernel
theorem dL_law_51 : decode cL_law 51 = .ok (.iconst 2, 1) := by decide +kernel
theorem dL_law_52 : decode cL_law 52 = .ok (.iload_n 2, 1) := by decide +kernel
theorem dL_law_53 : decode cL_law 53 = .ok (.imul, 1) := by decide +kernel
theorem dL_law_54 : decode cL_law 54 = .ok (.invokestatic 96, 3) := by decide +kernel
theorem dL_law_57 : decode cL_law 57 = .ok (.bipush 9, 2) := by decide +kernel
theorem dL_law_59 : decode cL_law 59 = .ok (.ior, 1) := by decide +kernel
theorem dL_law_60 : decode cL_law 60 = .ok (.goto 10, 3) := by decide +kernel
theorem dL_law_63 : decode cL_law 63 = .ok (.aload_n 0, 1) := by decide +kernel
theorem dL_law_64 : decode cL_law 64 = .ok (.iconst 2, 1) := by decide +kernel
theorem dL_law_65 : decode cL_law 65 = .ok (.iload_n 2, 1) := by decide +kernel
theorem dL_law_66 : decode cL_law 66 = .ok (.imul, 1) := by decide +kernel
theorem dL_law_67 : decode cL_law 67 = .ok (.invokestatic 96, 3) := by decide +kernel
theorem dL_law_70 : decode cL_law 70 = .ok (.istore_n 3, 1) := by decide +kernel
theorem dL_law_71 : decode cL_law 71 = .ok (.aload_n 0, 1) := by decide +kernel
theorem dL_law_72 : decode cL_law 72 = .ok (.iconst 2, 1) := by decide +kernel
theorem dL_law_73 : decode cL_law 73 = .ok (.iload_n 2, 1) := by decide +kernel
theorem dL_law_74 : decode cL_law 74 = .ok (.imul, 1) := by decide +kernel
theorem dL_law_75 : decode cL_law 75 = .ok (.iconst 1, 1) := by decide +kernel
theorem dL_law_76 : decode cL_law 76 = .ok (.iadd, 1) := by decide +kernel
theorem dL_law_77 : decode cL_law 77 = .ok (.invokestatic 96, 3) := by decide +kernel
theorem dL_law_80 : decode cL_law 80 = .ok (.istore 4, 2) := by decide +kernel
theorem dL_law_82 : decode cL_law 82 = .ok (.aload_n 1, 1) := by decide +kernel
theorem dL_law_83 : decode cL_law 83 = .ok (.invokestatic 100, 3) := by decide +kernel
theorem dL_law_86 : decode cL_law 86 = .ok (.lstore 5, 2) := by decide +kernel
theorem dL_law_88 : decode cL_law 88 = .ok (.aload_n 1, 1) := by decide +kernel
theorem dL_law_89 : decode cL_law 89 = .ok (.bipush 6, 2) := by decide +kernel
theorem dL_law_91 : decode cL_law 91 = .ok (.invokevirtual 12, 3) := by decide +kernel
theorem dL_law_94 : decode cL_law 94 = .ok (.istore 7, 2) := by decide +kernel
theorem dL_law_96 : decode cL_law 96 = .ok (.aload_n 1, 1) := by decide +kernel
theorem dL_law_97 : decode cL_law 97 = .ok (.iload_n 3, 1) := by decide +kernel
theorem dL_law_98 : decode cL_law 98 = .ok (.iload 4, 2) := by decide +kernel
theorem dL_law_100 : decode cL_law 100 = .ok (.invokestatic 104, 3) := by decide +kernel
theorem dL_law_103 : decode cL_law 103 = .ok (.istore 8, 2) := by decide +kernel
theorem dL_law_105 : decode cL_law 105 = .ok (.aload_n 1, 1) := by decide +kernel
theorem dL_law_106 : decode cL_law 106 = .ok (.invokestatic 100, 3) := by decide +kernel
theorem dL_law_109 : decode cL_law 109 = .ok (.lstore 9, 2) := by decide +kernel
theorem dL_law_111 : decode cL_law 111 = .ok (.iload 8, 2) := by decide +kernel
theorem dL_law_113 : decode cL_law 113 = .ok (.ifCond .ge 25, 3) := by decide +kernel
theorem dL_law_116 : decode cL_law 116 = .ok (.lload 9, 2) := by decide +kernel
theorem dL_law_118 : decode cL_law 118 = .ok (.lload 5, 2) := by decide +kernel
theorem dL_law_120 : decode cL_law 120 = .ok (.lcmp, 1) := by decide +kernel
theorem dL_law_121 : decode cL_law 121 = .ok (.ifCond .ne 42, 3) := by decide +kernel
theorem dL_law_124 : decode cL_law 124 = .ok (.aload_n 1, 1) := by decide +kernel
theorem dL_law_125 : decode cL_law 125 = .ok (.bipush 6, 2) := by decide +kernel
theorem dL_law_127 : decode cL_law 127 = .ok (.invokevirtual 12, 3) := by decide +kernel
theorem dL_law_130 : decode cL_law 130 = .ok (.iload 7, 2) := by decide +kernel
theorem dL_law_132 : decode cL_law 132 = .ok (.if_icmp .eq 33, 3) := by decide +kernel
theorem dL_law_135 : decode cL_law 135 = .ok (.goto 28, 3) := by decide +kernel
theorem dL_law_138 : decode cL_law 138 = .ok (.aload_n 1, 1) := by decide +kernel
theorem dL_law_139 : decode cL_law 139 = .ok (.bipush 6, 2) := by decide +kernel
theorem dL_law_141 : decode cL_law 141 = .ok (.invokevirtual 12, 3) := by decide +kernel
theorem dL_law_144 : decode cL_law 144 = .ok (.iload 7, 2) := by decide +kernel
theorem dL_law_146 : decode cL_law 146 = .ok (.bipush 6, 2) := by decide +kernel
theorem dL_law_148 : decode cL_law 148 = .ok (.if_icmp .ge 10, 3) := by decide +kernel
theorem dL_law_151 : decode cL_law 151 = .ok (.iload 7, 2) := by decide +kernel
theorem dL_law_153 : decode cL_law 153 = .ok (.iconst 1, 1) := by decide +kernel
theorem dL_law_154 : decode cL_law 154 = .ok (.iadd, 1) := by decide +kernel
theorem dL_law_155 : decode cL_law 155 = .ok (.goto 5, 3) := by decide +kernel
theorem dL_law_158 : decode cL_law 158 = .ok (.bipush 6, 2) := by decide +kernel
theorem dL_law_160 : decode cL_law 160 = .ok (.if_icmp .eq 5, 3) := by decide +kernel
theorem dL_law_163 : decode cL_law 163 = .ok (.iconst 0, 1) := by decide +kernel
theorem dL_law_164 : decode cL_law 164 = .ok (.ireturn, 1) := by decide +kernel
theorem dL_law_165 : decode cL_law 165 = .ok (.iload 8, 2) := by decide +kernel
theorem dL_law_167 : decode cL_law 167 = .ok (.ifCond .lt 65, 3) := by decide +kernel
theorem dL_law_170 : decode cL_law 170 = .ok (.iload_n 3, 1) := by decide +kernel
theorem dL_law_171 : decode cL_law 171 = .ok (.bipush 10, 2) := by decide +kernel
theorem dL_law_173 : decode cL_law 173 = .ok (.ishr, 1) := by decide +kernel
theorem dL_law_174 : decode cL_law 174 = .ok (.iconst 1, 1) := by decide +kernel
theorem dL_law_175 : decode cL_law 175 = .ok (.iand, 1) := by decide +kernel
theorem dL_law_176 : decode cL_law 176 = .ok (.ifCond .ne 56, 3) := by decide +kernel
theorem dL_law_179 : decode cL_law 179 = .ok (.aload_n 1, 1) := by decide +kernel
theorem dL_law_180 : decode cL_law 180 = .ok (.bipush 6, 2) := by decide +kernel
theorem dL_law_182 : decode cL_law 182 = .ok (.invokevirtual 12, 3) := by decide +kernel
theorem dL_law_185 : decode cL_law 185 = .ok (.iconst 1, 1) := by decide +kernel
theorem dL_law_186 : decode cL_law 186 = .ok (.isub, 1) := by decide +kernel
theorem dL_law_187 : decode cL_law 187 = .ok (.istore 11, 2) := by decide +kernel
theorem dL_law_189 : decode cL_law 189 = .ok (.aload_n 1, 1) := by decide +kernel
theorem dL_law_190 : decode cL_law 190 = .ok (.invokevirtual 93, 3) := by decide +kernel
theorem dL_law_193 : decode cL_law 193 = .ok (.iload 11, 2) := by decide +kernel
theorem dL_law_195 : decode cL_law 195 = .ok (.if_icmp .ne 35, 3) := by decide +kernel
theorem dL_law_198 : decode cL_law 198 = .ok (.aload_n 1, 1) := by decide +kernel
theorem dL_law_199 : decode cL_law 199 = .ok (.invokestatic 100, 3) := by decide +kernel
theorem dL_law_202 : decode cL_law 202 = .ok (.lload 5, 2) := by decide +kernel
theorem dL_law_204 : decode cL_law 204 = .ok (.lcmp, 1) := by decide +kernel
theorem dL_law_205 : decode cL_law 205 = .ok (.ifCond .ne 25, 3) := by decide +kernel
theorem dL_law_208 : decode cL_law 208 = .ok (.aload_n 1, 1) := by decide +kernel
theorem dL_law_209 : decode cL_law 209 = .ok (.iload_n 3, 1) := by decide +kernel
theorem dL_law_210 : decode cL_law 210 = .ok (.iload 4, 2) := by decide +kernel
theorem dL_law_212 : decode cL_law 212 = .ok (.invokestatic 104, 3) := by decide +kernel
theorem dL_law_215 : decode cL_law 215 = .ok (.iload 8, 2) := by decide +kernel
theorem dL_law_217 : decode cL_law 217 = .ok (.if_icmp .ne 13, 3) := by decide +kernel
theorem dL_law_220 : decode cL_law 220 = .ok (.aload_n 1, 1) := by decide +kernel
theorem dL_law_221 : decode cL_law 221 = .ok (.invokestatic 100, 3) := by decide +kernel
theorem dL_law_224 : decode cL_law 224 = .ok (.lload 9, 2) := by decide +kernel
theorem dL_law_226 : decode cL_law 226 = .ok (.lcmp, 1) := by decide +kernel
theorem dL_law_227 : decode cL_law 227 = .ok (.ifCond .eq 5, 3) := by decide +kernel
theorem dL_law_230 : decode cL_law 230 = .ok (.iconst 0, 1) := by decide +kernel
theorem dL_law_231 : decode cL_law 231 = .ok (.ireturn, 1) := by decide +kernel
theorem dL_law_232 : decode cL_law 232 = .ok (.iload_n 2, 1) := by decide +kernel
theorem dL_law_233 : decode cL_law 233 = .ok (.iconst 4, 1) := by decide +kernel
theorem dL_law_234 : decode cL_law 234 = .ok (.irem, 1) := by decide +kernel
theorem dL_law_235 : decode cL_law 235 = .ok (.iconst 3, 1) := by decide +kernel
theorem dL_law_236 : decode cL_law 236 = .ok (.if_icmp .ne 25, 3) := by decide +kernel
theorem dL_law_239 : decode cL_law 239 = .ok (.aload_n 1, 1) := by decide +kernel
theorem dL_law_240 : decode cL_law 240 = .ok (.iload 4, 2) := by decide +kernel
theorem dL_law_242 : decode cL_law 242 = .ok (.iconst 3, 1) := by decide +kernel
theorem dL_law_243 : decode cL_law 243 = .ok (.ishr, 1) := by decide +kernel
theorem dL_law_244 : decode cL_law 244 = .ok (.invokestatic 108, 3) := by decide +kernel
theorem dL_law_247 : decode cL_law 247 = .ok (.ifCond .eq 12, 3) := by decide +kernel
theorem dL_law_250 : decode cL_law 250 = .ok (.aload_n 1, 1) := by decide +kernel
theorem dL_law_251 : decode cL_law 251 = .ok (.iload 4, 2) := by decide +kernel
theorem dL_law_253 : decode cL_law 253 = .ok (.invokestatic 112, 3) := by decide +kernel
theorem dL_law_256 : decode cL_law 256 = .ok (.ifCond .ne 5, 3) := by decide +kernel
theorem dL_law_259 : decode cL_law 259 = .ok (.iconst 0, 1) := by decide +kernel
theorem dL_law_260 : decode cL_law 260 = .ok (.ireturn, 1) := by decide +kernel
theorem dL_law_261 : decode cL_law 261 = .ok (.iinc 2 1, 3) := by decide +kernel
theorem dL_law_264 : decode cL_law 264 = .ok (.goto (-225), 3) := by decide +kernel
theorem dL_law_267 : decode cL_law 267 = .ok (.iconst 1, 1) := by decide +kernel
theorem dL_law_268 : decode cL_law 268 = .ok (.ireturn, 1) := by decide +kernel
