theorem dX0_ofDouble_0 : decode cX0_ofDouble 0 = .ok (.dload_n 0, 1) := by decide +kernel
theorem dX0_ofDouble_1 : decode cX0_ofDouble 1 = .ok (.dconst 0, 1) := by decide +kernel
theorem dX0_ofDouble_2 : decode cX0_ofDouble 2 = .ok (.dcmp .l, 1) := by decide +kernel
theorem dX0_ofDouble_3 : decode cX0_ofDouble 3 = .ok (.ifCond .gt 5, 3) := by decide +kernel
theorem dX0_ofDouble_6 : decode cX0_ofDouble 6 = .ok (.lconst 0, 1) := by decide +kernel
theorem dX0_ofDouble_7 : decode cX0_ofDouble 7 = .ok (.lreturn, 1) := by decide +kernel
theorem dX0_ofDouble_8 : decode cX0_ofDouble 8 = .ok (.dload_n 0, 1) := by decide +kernel
theorem dX0_ofDouble_9 : decode cX0_ofDouble 9 = .ok (.dstore_n 2, 1) := by decide +kernel
theorem dX0_ofDouble_10 : decode cX0_ofDouble 10 = .ok (.iconst 0, 1) := by decide +kernel
theorem dX0_ofDouble_11 : decode cX0_ofDouble 11 = .ok (.istore 4, 2) := by decide +kernel
theorem dX0_ofDouble_13 : decode cX0_ofDouble 13 = .ok (.dload_n 2, 1) := by decide +kernel
theorem dX0_ofDouble_14 : decode cX0_ofDouble 14 = .ok (.ldc2_w 7, 3) := by decide +kernel
theorem dX0_ofDouble_17 : decode cX0_ofDouble 17 = .ok (.dcmp .l, 1) := by decide +kernel
theorem dX0_ofDouble_18 : decode cX0_ofDouble 18 = .ok (.ifCond .lt 23, 3) := by decide +kernel
theorem dX0_ofDouble_21 : decode cX0_ofDouble 21 = .ok (.iload 4, 2) := by decide +kernel
theorem dX0_ofDouble_23 : decode cX0_ofDouble 23 = .ok (.sipush 1023, 3) := by decide +kernel
theorem dX0_ofDouble_26 : decode cX0_ofDouble 26 = .ok (.if_icmp .ge 15, 3) := by decide +kernel
theorem dX0_ofDouble_29 : decode cX0_ofDouble 29 = .ok (.dload_n 2, 1) := by decide +kernel
theorem dX0_ofDouble_30 : decode cX0_ofDouble 30 = .ok (.ldc2_w 7, 3) := by decide +kernel
theorem dX0_ofDouble_33 : decode cX0_ofDouble 33 = .ok (.ddiv, 1) := by decide +kernel
theorem dX0_ofDouble_34 : decode cX0_ofDouble 34 = .ok (.dstore_n 2, 1) := by decide +kernel
theorem dX0_ofDouble_35 : decode cX0_ofDouble 35 = .ok (.iinc 4 1, 3) := by decide +kernel
theorem dX0_ofDouble_38 : decode cX0_ofDouble 38 = .ok (.goto (-25), 3) := by decide +kernel
theorem dX0_ofDouble_41 : decode cX0_ofDouble 41 = .ok (.dload_n 2, 1) := by decide +kernel
theorem dX0_ofDouble_42 : decode cX0_ofDouble 42 = .ok (.dconst 1, 1) := by decide +kernel
theorem dX0_ofDouble_43 : decode cX0_ofDouble 43 = .ok (.dcmp .g, 1) := by decide +kernel
theorem dX0_ofDouble_44 : decode cX0_ofDouble 44 = .ok (.ifCond .ge 23, 3) := by decide +kernel
theorem dX0_ofDouble_47 : decode cX0_ofDouble 47 = .ok (.iload 4, 2) := by decide +kernel
theorem dX0_ofDouble_49 : decode cX0_ofDouble 49 = .ok (.sipush (-1022), 3) := by decide +kernel
theorem dX0_ofDouble_52 : decode cX0_ofDouble 52 = .ok (.if_icmp .le 15, 3) := by decide +kernel
theorem dX0_ofDouble_55 : decode cX0_ofDouble 55 = .ok (.dload_n 2, 1) := by decide +kernel
theorem dX0_ofDouble_56 : decode cX0_ofDouble 56 = .ok (.ldc2_w 7, 3) := by decide +kernel
theorem dX0_ofDouble_59 : decode cX0_ofDouble 59 = .ok (.dmul, 1) := by decide +kernel
theorem dX0_ofDouble_60 : decode cX0_ofDouble 60 = .ok (.dstore_n 2, 1) := by decide +kernel
theorem dX0_ofDouble_61 : decode cX0_ofDouble 61 = .ok (.iinc 4 (-1), 3) := by decide +kernel
theorem dX0_ofDouble_64 : decode cX0_ofDouble 64 = .ok (.goto (-23), 3) := by decide +kernel
theorem dX0_ofDouble_67 : decode cX0_ofDouble 67 = .ok (.dload_n 2, 1) := by decide +kernel
theorem dX0_ofDouble_68 : decode cX0_ofDouble 68 = .ok (.dconst 1, 1) := by decide +kernel
theorem dX0_ofDouble_69 : decode cX0_ofDouble 69 = .ok (.dsub, 1) := by decide +kernel
theorem dX0_ofDouble_70 : decode cX0_ofDouble 70 = .ok (.ldc2_w 11, 3) := by decide +kernel
theorem dX0_ofDouble_73 : decode cX0_ofDouble 73 = .ok (.dmul, 1) := by decide +kernel
theorem dX0_ofDouble_74 : decode cX0_ofDouble 74 = .ok (.d2l, 1) := by decide +kernel
theorem dX0_ofDouble_75 : decode cX0_ofDouble 75 = .ok (.lstore 5, 2) := by decide +kernel
theorem dX0_ofDouble_77 : decode cX0_ofDouble 77 = .ok (.iload 4, 2) := by decide +kernel
theorem dX0_ofDouble_79 : decode cX0_ofDouble 79 = .ok (.sipush 1023, 3) := by decide +kernel
theorem dX0_ofDouble_82 : decode cX0_ofDouble 82 = .ok (.iadd, 1) := by decide +kernel
theorem dX0_ofDouble_83 : decode cX0_ofDouble 83 = .ok (.i2l, 1) := by decide +kernel
theorem dX0_ofDouble_84 : decode cX0_ofDouble 84 = .ok (.bipush 52, 2) := by decide +kernel
theorem dX0_ofDouble_86 : decode cX0_ofDouble 86 = .ok (.lshl, 1) := by decide +kernel
theorem dX0_ofDouble_87 : decode cX0_ofDouble 87 = .ok (.lload 5, 2) := by decide +kernel
theorem dX0_ofDouble_89 : decode cX0_ofDouble 89 = .ok (.lor, 1) := by decide +kernel
theorem dX0_ofDouble_90 : decode cX0_ofDouble 90 = .ok (.lreturn, 1) := by decide +kernel
theorem dX0_ofShare_0 : decode cX0_ofShare 0 = .ok (.fload_n 0, 1) := by decide +kernel
theorem dX0_ofShare_1 : decode cX0_ofShare 1 = .ok (.fconst 0, 1) := by decide +kernel
theorem dX0_ofShare_2 : decode cX0_ofShare 2 = .ok (.fcmp .l, 1) := by decide +kernel
theorem dX0_ofShare_3 : decode cX0_ofShare 3 = .ok (.ifCond .gt 5, 3) := by decide +kernel
theorem dX0_ofShare_6 : decode cX0_ofShare 6 = .ok (.iconst 0, 1) := by decide +kernel
theorem dX0_ofShare_7 : decode cX0_ofShare 7 = .ok (.ireturn, 1) := by decide +kernel
theorem dX0_ofShare_8 : decode cX0_ofShare 8 = .ok (.fload_n 0, 1) := by decide +kernel
theorem dX0_ofShare_9 : decode cX0_ofShare 9 = .ok (.fstore_n 1, 1) := by decide +kernel
theorem dX0_ofShare_10 : decode cX0_ofShare 10 = .ok (.iconst 0, 1) := by decide +kernel
theorem dX0_ofShare_11 : decode cX0_ofShare 11 = .ok (.istore_n 2, 1) := by decide +kernel
theorem dX0_ofShare_12 : decode cX0_ofShare 12 = .ok (.fload_n 1, 1) := by decide +kernel
theorem dX0_ofShare_13 : decode cX0_ofShare 13 = .ok (.fconst 1, 1) := by decide +kernel
theorem dX0_ofShare_14 : decode cX0_ofShare 14 = .ok (.fcmp .g, 1) := by decide +kernel
theorem dX0_ofShare_15 : decode cX0_ofShare 15 = .ok (.ifCond .ge 19, 3) := by decide +kernel
theorem dX0_ofShare_18 : decode cX0_ofShare 18 = .ok (.iload_n 2, 1) := by decide +kernel
theorem dX0_ofShare_19 : decode cX0_ofShare 19 = .ok (.bipush (-126), 2) := by decide +kernel
theorem dX0_ofShare_21 : decode cX0_ofShare 21 = .ok (.if_icmp .le 13, 3) := by decide +kernel
theorem dX0_ofShare_24 : decode cX0_ofShare 24 = .ok (.fload_n 1, 1) := by decide +kernel
theorem dX0_ofShare_25 : decode cX0_ofShare 25 = .ok (.fconst 2, 1) := by decide +kernel
theorem dX0_ofShare_26 : decode cX0_ofShare 26 = .ok (.fmul, 1) := by decide +kernel
theorem dX0_ofShare_27 : decode cX0_ofShare 27 = .ok (.fstore_n 1, 1) := by decide +kernel
theorem dX0_ofShare_28 : decode cX0_ofShare 28 = .ok (.iinc 2 (-1), 3) := by decide +kernel
theorem dX0_ofShare_31 : decode cX0_ofShare 31 = .ok (.goto (-19), 3) := by decide +kernel
theorem dX0_ofShare_34 : decode cX0_ofShare 34 = .ok (.fload_n 1, 1) := by decide +kernel
theorem dX0_ofShare_35 : decode cX0_ofShare 35 = .ok (.fconst 1, 1) := by decide +kernel
theorem dX0_ofShare_36 : decode cX0_ofShare 36 = .ok (.fsub, 1) := by decide +kernel
theorem dX0_ofShare_37 : decode cX0_ofShare 37 = .ok (.ldc 13, 2) := by decide +kernel
theorem dX0_ofShare_39 : decode cX0_ofShare 39 = .ok (.fmul, 1) := by decide +kernel
theorem dX0_ofShare_40 : decode cX0_ofShare 40 = .ok (.f2i, 1) := by decide +kernel
theorem dX0_ofShare_41 : decode cX0_ofShare 41 = .ok (.istore_n 3, 1) := by decide +kernel
theorem dX0_ofShare_42 : decode cX0_ofShare 42 = .ok (.iload_n 2, 1) := by decide +kernel
theorem dX0_ofShare_43 : decode cX0_ofShare 43 = .ok (.bipush 127, 2) := by decide +kernel
theorem dX0_ofShare_45 : decode cX0_ofShare 45 = .ok (.iadd, 1) := by decide +kernel
theorem dX0_ofShare_46 : decode cX0_ofShare 46 = .ok (.bipush 23, 2) := by decide +kernel
theorem dX0_ofShare_48 : decode cX0_ofShare 48 = .ok (.ishl, 1) := by decide +kernel
theorem dX0_ofShare_49 : decode cX0_ofShare 49 = .ok (.iload_n 3, 1) := by decide +kernel
theorem dX0_ofShare_50 : decode cX0_ofShare 50 = .ok (.ior, 1) := by decide +kernel
theorem dX0_ofShare_51 : decode cX0_ofShare 51 = .ok (.ireturn, 1) := by decide +kernel
theorem dX1_init_0 : decode cX1_init 0 = .ok (.aload_n 0, 1) := by decide +kernel
theorem dX1_init_1 : decode cX1_init 1 = .ok (.invokespecial 3, 3) := by decide +kernel
theorem dX1_init_4 : decode cX1_init 4 = .ok (.aload_n 0, 1) := by decide +kernel
theorem dX1_init_5 : decode cX1_init 5 = .ok (.bipush 17, 2) := by decide +kernel
theorem dX1_init_7 : decode cX1_init 7 = .ok (.newarray .int, 2) := by decide +kernel
theorem dX1_init_9 : decode cX1_init 9 = .ok (.putfield 9, 3) := by decide +kernel
theorem dX1_init_12 : decode cX1_init 12 = .ok (.return_, 1) := by decide +kernel
theorem dX1_tell_0 : decode cX1_tell 0 = .ok (.iconst 0, 1) := by decide +kernel
theorem dX1_tell_1 : decode cX1_tell 1 = .ok (.istore 4, 2) := by decide +kernel
theorem dX1_tell_3 : decode cX1_tell 3 = .ok (.iload 4, 2) := by decide +kernel
theorem dX1_tell_5 : decode cX1_tell 5 = .ok (.aload_n 0, 1) := by decide +kernel
theorem dX1_tell_6 : decode cX1_tell 6 = .ok (.getfield 9, 3) := by decide +kernel
theorem dX1_tell_9 : decode cX1_tell 9 = .ok (.arraylength, 1) := by decide +kernel
theorem dX1_tell_10 : decode cX1_tell 10 = .ok (.if_icmp .ge 17, 3) := by decide +kernel
theorem dX1_tell_13 : decode cX1_tell 13 = .ok (.aload_n 0, 1) := by decide +kernel
theorem dX1_tell_14 : decode cX1_tell 14 = .ok (.getfield 9, 3) := by decide +kernel
theorem dX1_tell_17 : decode cX1_tell 17 = .ok (.iload 4, 2) := by decide +kernel
theorem dX1_tell_19 : decode cX1_tell 19 = .ok (.iconst 0, 1) := by decide +kernel
theorem dX1_tell_20 : decode cX1_tell 20 = .ok (.iastore, 1) := by decide +kernel
theorem dX1_tell_21 : decode cX1_tell 21 = .ok (.iinc 4 1, 3) := by decide +kernel
theorem dX1_tell_24 : decode cX1_tell 24 = .ok (.goto (-21), 3) := by decide +kernel
theorem dX1_tell_27 : decode cX1_tell 27 = .ok (.iconst 0, 1) := by decide +kernel
theorem dX1_tell_28 : decode cX1_tell 28 = .ok (.istore 4, 2) := by decide +kernel
theorem dX1_tell_30 : decode cX1_tell 30 = .ok (.iconst 0, 1) := by decide +kernel
theorem dX1_tell_31 : decode cX1_tell 31 = .ok (.istore 5, 2) := by decide +kernel
theorem dX1_tell_33 : decode cX1_tell 33 = .ok (.iload 5, 2) := by decide +kernel
theorem dX1_tell_35 : decode cX1_tell 35 = .ok (.iload_n 3, 1) := by decide +kernel
theorem dX1_tell_36 : decode cX1_tell 36 = .ok (.if_icmp .ge 70, 3) := by decide +kernel
theorem dX1_tell_39 : decode cX1_tell 39 = .ok (.iload 4, 2) := by decide +kernel
theorem dX1_tell_41 : decode cX1_tell 41 = .ok (.iload 5, 2) := by decide +kernel
theorem dX1_tell_43 : decode cX1_tell 43 = .ok (.ishr, 1) := by decide +kernel
theorem dX1_tell_44 : decode cX1_tell 44 = .ok (.iconst 1, 1) := by decide +kernel
theorem dX1_tell_45 : decode cX1_tell 45 = .ok (.iand, 1) := by decide +kernel
theorem dX1_tell_46 : decode cX1_tell 46 = .ok (.ifCond .ne 54, 3) := by decide +kernel
theorem dX1_tell_49 : decode cX1_tell 49 = .ok (.lload_n 1, 1) := by decide +kernel
theorem dX1_tell_50 : decode cX1_tell 50 = .ok (.iload 5, 2) := by decide +kernel
theorem dX1_tell_52 : decode cX1_tell 52 = .ok (.invokestatic 15, 3) := by decide +kernel
theorem dX1_tell_55 : decode cX1_tell 55 = .ok (.istore 6, 2) := by decide +kernel
theorem dX1_tell_57 : decode cX1_tell 57 = .ok (.iload 5, 2) := by decide +kernel
theorem dX1_tell_59 : decode cX1_tell 59 = .ok (.istore 7, 2) := by decide +kernel
theorem dX1_tell_61 : decode cX1_tell 61 = .ok (.iconst 0, 1) := by decide +kernel
theorem dX1_tell_62 : decode cX1_tell 62 = .ok (.istore 8, 2) := by decide +kernel
theorem dX1_tell_64 : decode cX1_tell 64 = .ok (.iload 8, 2) := by decide +kernel
theorem dX1_tell_66 : decode cX1_tell 66 = .ok (.iload 6, 2) := by decide +kernel
theorem dX1_tell_68 : decode cX1_tell 68 = .ok (.if_icmp .ge 26, 3) := by decide +kernel
theorem dX1_tell_71 : decode cX1_tell 71 = .ok (.iload 4, 2) := by decide +kernel
theorem dX1_tell_73 : decode cX1_tell 73 = .ok (.iconst 1, 1) := by decide +kernel
theorem dX1_tell_74 : decode cX1_tell 74 = .ok (.iload 7, 2) := by decide +kernel
theorem dX1_tell_76 : decode cX1_tell 76 = .ok (.ishl, 1) := by decide +kernel
theorem dX1_tell_77 : decode cX1_tell 77 = .ok (.ior, 1) := by decide +kernel
theorem dX1_tell_78 : decode cX1_tell 78 = .ok (.istore 4, 2) := by decide +kernel
theorem dX1_tell_80 : decode cX1_tell 80 = .ok (.lload_n 1, 1) := by decide +kernel
theorem dX1_tell_81 : decode cX1_tell 81 = .ok (.iload 7, 2) := by decide +kernel
theorem dX1_tell_83 : decode cX1_tell 83 = .ok (.invokestatic 21, 3) := by decide +kernel
theorem dX1_tell_86 : decode cX1_tell 86 = .ok (.istore 7, 2) := by decide +kernel
theorem dX1_tell_88 : decode cX1_tell 88 = .ok (.iinc 8 1, 3) := by decide +kernel
theorem dX1_tell_91 : decode cX1_tell 91 = .ok (.goto (-27), 3) := by decide +kernel
theorem dX1_tell_94 : decode cX1_tell 94 = .ok (.aload_n 0, 1) := by decide +kernel
theorem dX1_tell_95 : decode cX1_tell 95 = .ok (.iload 6, 2) := by decide +kernel
theorem dX1_tell_97 : decode cX1_tell 97 = .ok (.invokevirtual 24, 3) := by decide +kernel
theorem dX1_tell_100 : decode cX1_tell 100 = .ok (.iinc 5 1, 3) := by decide +kernel
theorem dX1_tell_103 : decode cX1_tell 103 = .ok (.goto (-70), 3) := by decide +kernel
theorem dX1_tell_106 : decode cX1_tell 106 = .ok (.return_, 1) := by decide +kernel
theorem dX1_add_0 : decode cX1_add 0 = .ok (.iload_n 1, 1) := by decide +kernel
theorem dX1_add_1 : decode cX1_add 1 = .ok (.ifCond .lt 22, 3) := by decide +kernel
theorem dX1_add_4 : decode cX1_add 4 = .ok (.iload_n 1, 1) := by decide +kernel
theorem dX1_add_5 : decode cX1_add 5 = .ok (.aload_n 0, 1) := by decide +kernel
theorem dX1_add_6 : decode cX1_add 6 = .ok (.getfield 9, 3) := by decide +kernel
theorem dX1_add_9 : decode cX1_add 9 = .ok (.arraylength, 1) := by decide +kernel
theorem dX1_add_10 : decode cX1_add 10 = .ok (.if_icmp .ge 13, 3) := by decide +kernel
theorem dX1_add_13 : decode cX1_add 13 = .ok (.aload_n 0, 1) := by decide +kernel
theorem dX1_add_14 : decode cX1_add 14 = .ok (.getfield 9, 3) := by decide +kernel
theorem dX1_add_17 : decode cX1_add 17 = .ok (.iload_n 1, 1) := by decide +kernel
theorem dX1_add_18 : decode cX1_add 18 = .ok (.dup2, 1) := by decide +kernel
theorem dX1_add_19 : decode cX1_add 19 = .ok (.iaload, 1) := by decide +kernel
theorem dX1_add_20 : decode cX1_add 20 = .ok (.iconst 1, 1) := by decide +kernel
theorem dX1_add_21 : decode cX1_add 21 = .ok (.iadd, 1) := by decide +kernel
theorem dX1_add_22 : decode cX1_add 22 = .ok (.iastore, 1) := by decide +kernel
theorem dX1_add_23 : decode cX1_add 23 = .ok (.return_, 1) := by decide +kernel
theorem dX1_howMany_0 : decode cX1_howMany 0 = .ok (.iconst 0, 1) := by decide +kernel
theorem dX1_howMany_1 : decode cX1_howMany 1 = .ok (.istore_n 1, 1) := by decide +kernel
theorem dX1_howMany_2 : decode cX1_howMany 2 = .ok (.iconst 1, 1) := by decide +kernel
theorem dX1_howMany_3 : decode cX1_howMany 3 = .ok (.istore_n 2, 1) := by decide +kernel
theorem dX1_howMany_4 : decode cX1_howMany 4 = .ok (.iload_n 2, 1) := by decide +kernel
theorem dX1_howMany_5 : decode cX1_howMany 5 = .ok (.aload_n 0, 1) := by decide +kernel
theorem dX1_howMany_6 : decode cX1_howMany 6 = .ok (.getfield 9, 3) := by decide +kernel
theorem dX1_howMany_9 : decode cX1_howMany 9 = .ok (.arraylength, 1) := by decide +kernel
theorem dX1_howMany_10 : decode cX1_howMany 10 = .ok (.if_icmp .ge 18, 3) := by decide +kernel
theorem dX1_howMany_13 : decode cX1_howMany 13 = .ok (.iload_n 1, 1) := by decide +kernel
theorem dX1_howMany_14 : decode cX1_howMany 14 = .ok (.aload_n 0, 1) := by decide +kernel
theorem dX1_howMany_15 : decode cX1_howMany 15 = .ok (.getfield 9, 3) := by decide +kernel
theorem dX1_howMany_18 : decode cX1_howMany 18 = .ok (.iload_n 2, 1) := by decide +kernel
theorem dX1_howMany_19 : decode cX1_howMany 19 = .ok (.iaload, 1) := by decide +kernel
theorem dX1_howMany_20 : decode cX1_howMany 20 = .ok (.iadd, 1) := by decide +kernel
theorem dX1_howMany_21 : decode cX1_howMany 21 = .ok (.istore_n 1, 1) := by decide +kernel
theorem dX1_howMany_22 : decode cX1_howMany 22 = .ok (.iinc 2 1, 3) := by decide +kernel
theorem dX1_howMany_25 : decode cX1_howMany 25 = .ok (.goto (-21), 3) := by decide +kernel
theorem dX1_howMany_28 : decode cX1_howMany 28 = .ok (.iload_n 1, 1) := by decide +kernel
theorem dX1_howMany_29 : decode cX1_howMany 29 = .ok (.ireturn, 1) := by decide +kernel
theorem dX1_longest_0 : decode cX1_longest 0 = .ok (.iconst 0, 1) := by decide +kernel
theorem dX1_longest_1 : decode cX1_longest 1 = .ok (.istore_n 1, 1) := by decide +kernel
theorem dX1_longest_2 : decode cX1_longest 2 = .ok (.iconst 1, 1) := by decide +kernel
theorem dX1_longest_3 : decode cX1_longest 3 = .ok (.istore_n 2, 1) := by decide +kernel
theorem dX1_longest_4 : decode cX1_longest 4 = .ok (.iload_n 2, 1) := by decide +kernel
theorem dX1_longest_5 : decode cX1_longest 5 = .ok (.aload_n 0, 1) := by decide +kernel
theorem dX1_longest_6 : decode cX1_longest 6 = .ok (.getfield 9, 3) := by decide +kernel
theorem dX1_longest_9 : decode cX1_longest 9 = .ok (.arraylength, 1) := by decide +kernel
theorem dX1_longest_10 : decode cX1_longest 10 = .ok (.if_icmp .ge 20, 3) := by decide +kernel
theorem dX1_longest_13 : decode cX1_longest 13 = .ok (.aload_n 0, 1) := by decide +kernel
theorem dX1_longest_14 : decode cX1_longest 14 = .ok (.getfield 9, 3) := by decide +kernel
theorem dX1_longest_17 : decode cX1_longest 17 = .ok (.iload_n 2, 1) := by decide +kernel
theorem dX1_longest_18 : decode cX1_longest 18 = .ok (.iaload, 1) := by decide +kernel
theorem dX1_longest_19 : decode cX1_longest 19 = .ok (.ifCond .le 5, 3) := by decide +kernel
theorem dX1_longest_22 : decode cX1_longest 22 = .ok (.iload_n 2, 1) := by decide +kernel
theorem dX1_longest_23 : decode cX1_longest 23 = .ok (.istore_n 1, 1) := by decide +kernel
theorem dX1_longest_24 : decode cX1_longest 24 = .ok (.iinc 2 1, 3) := by decide +kernel
theorem dX1_longest_27 : decode cX1_longest 27 = .ok (.goto (-23), 3) := by decide +kernel
theorem dX1_longest_30 : decode cX1_longest 30 = .ok (.iload_n 1, 1) := by decide +kernel
theorem dX1_longest_31 : decode cX1_longest 31 = .ok (.ireturn, 1) := by decide +kernel
theorem dX1_order_0 : decode cX1_order 0 = .ok (.iconst 1, 1) := by decide +kernel
theorem dX1_order_1 : decode cX1_order 1 = .ok (.istore_n 1, 1) := by decide +kernel
theorem dX1_order_2 : decode cX1_order 2 = .ok (.iconst 1, 1) := by decide +kernel
theorem dX1_order_3 : decode cX1_order 3 = .ok (.istore_n 2, 1) := by decide +kernel
theorem dX1_order_4 : decode cX1_order 4 = .ok (.iload_n 2, 1) := by decide +kernel
theorem dX1_order_5 : decode cX1_order 5 = .ok (.aload_n 0, 1) := by decide +kernel
theorem dX1_order_6 : decode cX1_order 6 = .ok (.getfield 9, 3) := by decide +kernel
theorem dX1_order_9 : decode cX1_order 9 = .ok (.arraylength, 1) := by decide +kernel
theorem dX1_order_10 : decode cX1_order 10 = .ok (.if_icmp .ge 24, 3) := by decide +kernel
theorem dX1_order_13 : decode cX1_order 13 = .ok (.aload_n 0, 1) := by decide +kernel
theorem dX1_order_14 : decode cX1_order 14 = .ok (.getfield 9, 3) := by decide +kernel
theorem dX1_order_17 : decode cX1_order 17 = .ok (.iload_n 2, 1) := by decide +kernel
theorem dX1_order_18 : decode cX1_order 18 = .ok (.iaload, 1) := by decide +kernel
theorem dX1_order_19 : decode cX1_order 19 = .ok (.ifCond .le 9, 3) := by decide +kernel
theorem dX1_order_22 : decode cX1_order 22 = .ok (.iload_n 1, 1) := by decide +kernel
theorem dX1_order_23 : decode cX1_order 23 = .ok (.iload_n 2, 1) := by decide +kernel
theorem dX1_order_24 : decode cX1_order 24 = .ok (.invokestatic 28, 3) := by decide +kernel
theorem dX1_order_27 : decode cX1_order 27 = .ok (.istore_n 1, 1) := by decide +kernel
theorem dX1_order_28 : decode cX1_order 28 = .ok (.iinc 2 1, 3) := by decide +kernel
theorem dX1_order_31 : decode cX1_order 31 = .ok (.goto (-27), 3) := by decide +kernel
theorem dX1_order_34 : decode cX1_order 34 = .ok (.iload_n 1, 1) := by decide +kernel
theorem dX1_order_35 : decode cX1_order 35 = .ok (.ireturn, 1) := by decide +kernel
theorem dX1_leastMultiple_0 : decode cX1_leastMultiple 0 = .ok (.iconst 1, 1) := by decide +kernel
theorem dX1_leastMultiple_1 : decode cX1_leastMultiple 1 = .ok (.istore_n 2, 1) := by decide +kernel
theorem dX1_leastMultiple_2 : decode cX1_leastMultiple 2 = .ok (.iload_n 2, 1) := by decide +kernel
theorem dX1_leastMultiple_3 : decode cX1_leastMultiple 3 = .ok (.iload_n 1, 1) := by decide +kernel
theorem dX1_leastMultiple_4 : decode cX1_leastMultiple 4 = .ok (.if_icmp .ge 21, 3) := by decide +kernel
theorem dX1_leastMultiple_7 : decode cX1_leastMultiple 7 = .ok (.iload_n 0, 1) := by decide +kernel
theorem dX1_leastMultiple_8 : decode cX1_leastMultiple 8 = .ok (.iload_n 2, 1) := by decide +kernel
theorem dX1_leastMultiple_9 : decode cX1_leastMultiple 9 = .ok (.imul, 1) := by decide +kernel
theorem dX1_leastMultiple_10 : decode cX1_leastMultiple 10 = .ok (.iload_n 1, 1) := by decide +kernel
theorem dX1_leastMultiple_11 : decode cX1_leastMultiple 11 = .ok (.irem, 1) := by decide +kernel
theorem dX1_leastMultiple_12 : decode cX1_leastMultiple 12 = .ok (.ifCond .ne 7, 3) := by decide +kernel
theorem dX1_leastMultiple_15 : decode cX1_leastMultiple 15 = .ok (.iload_n 0, 1) := by decide +kernel
theorem dX1_leastMultiple_16 : decode cX1_leastMultiple 16 = .ok (.iload_n 2, 1) := by decide +kernel
theorem dX1_leastMultiple_17 : decode cX1_leastMultiple 17 = .ok (.imul, 1) := by decide +kernel
theorem dX1_leastMultiple_18 : decode cX1_leastMultiple 18 = .ok (.ireturn, 1) := by decide +kernel
theorem dX1_leastMultiple_19 : decode cX1_leastMultiple 19 = .ok (.iinc 2 1, 3) := by decide +kernel
theorem dX1_leastMultiple_22 : decode cX1_leastMultiple 22 = .ok (.goto (-20), 3) := by decide +kernel
theorem dX1_leastMultiple_25 : decode cX1_leastMultiple 25 = .ok (.iload_n 0, 1) := by decide +kernel
theorem dX1_leastMultiple_26 : decode cX1_leastMultiple 26 = .ok (.iload_n 1, 1) := by decide +kernel
theorem dX1_leastMultiple_27 : decode cX1_leastMultiple 27 = .ok (.imul, 1) := by decide +kernel
theorem dX1_leastMultiple_28 : decode cX1_leastMultiple 28 = .ok (.ireturn, 1) := by decide +kernel
theorem dX1_marksThatCommute_0 : decode cX1_marksThatCommute 0 = .ok (.lconst 1, 1) := by decide +kernel
theorem dX1_marksThatCommute_1 : decode cX1_marksThatCommute 1 = .ok (.lstore_n 1, 1) := by decide +kernel
theorem dX1_marksThatCommute_2 : decode cX1_marksThatCommute 2 = .ok (.iconst 1, 1) := by decide +kernel
theorem dX1_marksThatCommute_3 : decode cX1_marksThatCommute 3 = .ok (.istore_n 3, 1) := by decide +kernel
theorem dX1_marksThatCommute_4 : decode cX1_marksThatCommute 4 = .ok (.iload_n 3, 1) := by decide +kernel
theorem dX1_marksThatCommute_5 : decode cX1_marksThatCommute 5 = .ok (.aload_n 0, 1) := by decide +kernel
theorem dX1_marksThatCommute_6 : decode cX1_marksThatCommute 6 = .ok (.getfield 9, 3) := by decide +kernel
theorem dX1_marksThatCommute_9 : decode cX1_marksThatCommute 9 = .ok (.arraylength, 1) := by decide +kernel
theorem dX1_marksThatCommute_10 : decode cX1_marksThatCommute 10 = .ok (.if_icmp .ge 38, 3) := by decide +kernel
theorem dX1_marksThatCommute_13 : decode cX1_marksThatCommute 13 = .ok (.iconst 1, 1) := by decide +kernel
theorem dX1_marksThatCommute_14 : decode cX1_marksThatCommute 14 = .ok (.istore 4, 2) := by decide +kernel
theorem dX1_marksThatCommute_16 : decode cX1_marksThatCommute 16 = .ok (.iload 4, 2) := by decide +kernel
theorem dX1_marksThatCommute_18 : decode cX1_marksThatCommute 18 = .ok (.aload_n 0, 1) := by decide +kernel
theorem dX1_marksThatCommute_19 : decode cX1_marksThatCommute 19 = .ok (.getfield 9, 3) := by decide +kernel
theorem dX1_marksThatCommute_22 : decode cX1_marksThatCommute 22 = .ok (.iload_n 3, 1) := by decide +kernel
theorem dX1_marksThatCommute_23 : decode cX1_marksThatCommute 23 = .ok (.iaload, 1) := by decide +kernel
theorem dX1_marksThatCommute_24 : decode cX1_marksThatCommute 24 = .ok (.if_icmp .gt 18, 3) := by decide +kernel
theorem dX1_marksThatCommute_27 : decode cX1_marksThatCommute 27 = .ok (.lload_n 1, 1) := by decide +kernel
theorem dX1_marksThatCommute_28 : decode cX1_marksThatCommute 28 = .ok (.iload_n 3, 1) := by decide +kernel
theorem dX1_marksThatCommute_29 : decode cX1_marksThatCommute 29 = .ok (.i2l, 1) := by decide +kernel
theorem dX1_marksThatCommute_30 : decode cX1_marksThatCommute 30 = .ok (.lmul, 1) := by decide +kernel
theorem dX1_marksThatCommute_31 : decode cX1_marksThatCommute 31 = .ok (.iload 4, 2) := by decide +kernel
theorem dX1_marksThatCommute_33 : decode cX1_marksThatCommute 33 = .ok (.i2l, 1) := by decide +kernel
theorem dX1_marksThatCommute_34 : decode cX1_marksThatCommute 34 = .ok (.lmul, 1) := by decide +kernel
theorem dX1_marksThatCommute_35 : decode cX1_marksThatCommute 35 = .ok (.lstore_n 1, 1) := by decide +kernel
theorem dX1_marksThatCommute_36 : decode cX1_marksThatCommute 36 = .ok (.iinc 4 1, 3) := by decide +kernel
theorem dX1_marksThatCommute_39 : decode cX1_marksThatCommute 39 = .ok (.goto (-23), 3) := by decide +kernel
theorem dX1_marksThatCommute_42 : decode cX1_marksThatCommute 42 = .ok (.iinc 3 1, 3) := by decide +kernel
theorem dX1_marksThatCommute_45 : decode cX1_marksThatCommute 45 = .ok (.goto (-41), 3) := by decide +kernel
theorem dX1_marksThatCommute_48 : decode cX1_marksThatCommute 48 = .ok (.lload_n 1, 1) := by decide +kernel
theorem dX1_marksThatCommute_49 : decode cX1_marksThatCommute 49 = .ok (.lreturn, 1) := by decide +kernel
theorem dX2_init_0 : decode cX2_init 0 = .ok (.aload_n 0, 1) := by decide +kernel
theorem dX2_init_1 : decode cX2_init 1 = .ok (.invokespecial 3, 3) := by decide +kernel
theorem dX2_init_4 : decode cX2_init 4 = .ok (.aload_n 0, 1) := by decide +kernel
theorem dX2_init_5 : decode cX2_init 5 = .ok (.bipush 8, 2) := by decide +kernel
theorem dX2_init_7 : decode cX2_init 7 = .ok (.putfield 9, 3) := by decide +kernel
theorem dX2_init_10 : decode cX2_init 10 = .ok (.aload_n 0, 1) := by decide +kernel
theorem dX2_init_11 : decode cX2_init 11 = .ok (.iconst 0, 1) := by decide +kernel
theorem dX2_init_12 : decode cX2_init 12 = .ok (.putfield 15, 3) := by decide +kernel
theorem dX2_init_15 : decode cX2_init 15 = .ok (.aload_n 0, 1) := by decide +kernel
theorem dX2_init_16 : decode cX2_init 16 = .ok (.ldc2_w 20, 3) := by decide +kernel
theorem dX2_init_19 : decode cX2_init 19 = .ok (.putfield 22, 3) := by decide +kernel
theorem dX2_init_22 : decode cX2_init 22 = .ok (.aload_n 0, 1) := by decide +kernel
theorem dX2_init_23 : decode cX2_init 23 = .ok (.iconst 0, 1) := by decide +kernel
theorem dX2_init_24 : decode cX2_init 24 = .ok (.putfield 26, 3) := by decide +kernel
theorem dX2_init_27 : decode cX2_init 27 = .ok (.aload_n 0, 1) := by decide +kernel
theorem dX2_init_28 : decode cX2_init 28 = .ok (.iconst 0, 1) := by decide +kernel
theorem dX2_init_29 : decode cX2_init 29 = .ok (.putfield 29, 3) := by decide +kernel
theorem dX2_init_32 : decode cX2_init 32 = .ok (.aload_n 0, 1) := by decide +kernel
theorem dX2_init_33 : decode cX2_init 33 = .ok (.iconst 0, 1) := by decide +kernel
theorem dX2_init_34 : decode cX2_init 34 = .ok (.putfield 32, 3) := by decide +kernel
theorem dX2_init_37 : decode cX2_init 37 = .ok (.aload_n 0, 1) := by decide +kernel
theorem dX2_init_38 : decode cX2_init 38 = .ok (.iconst 0, 1) := by decide +kernel
theorem dX2_init_39 : decode cX2_init 39 = .ok (.putfield 35, 3) := by decide +kernel
theorem dX2_init_42 : decode cX2_init 42 = .ok (.aload_n 0, 1) := by decide +kernel
theorem dX2_init_43 : decode cX2_init 43 = .ok (.iconst 0, 1) := by decide +kernel
theorem dX2_init_44 : decode cX2_init 44 = .ok (.putfield 38, 3) := by decide +kernel
theorem dX2_init_47 : decode cX2_init 47 = .ok (.return_, 1) := by decide +kernel
theorem dX3_to_0 : decode cX3_to 0 = .ok (.lload_n 0, 1) := by decide +kernel
theorem dX3_to_1 : decode cX3_to 1 = .ok (.iconst 4, 1) := by decide +kernel
theorem dX3_to_2 : decode cX3_to 2 = .ok (.iload_n 2, 1) := by decide +kernel
theorem dX3_to_3 : decode cX3_to 3 = .ok (.imul, 1) := by decide +kernel
theorem dX3_to_4 : decode cX3_to 4 = .ok (.lushr, 1) := by decide +kernel
theorem dX3_to_5 : decode cX3_to 5 = .ok (.l2i, 1) := by decide +kernel
theorem dX3_to_6 : decode cX3_to 6 = .ok (.bipush 15, 2) := by decide +kernel
theorem dX3_to_8 : decode cX3_to 8 = .ok (.iand, 1) := by decide +kernel
theorem dX3_to_9 : decode cX3_to 9 = .ok (.ireturn, 1) := by decide +kernel
theorem dX3_from_0 : decode cX3_from 0 = .ok (.iconst 0, 1) := by decide +kernel
theorem dX3_from_1 : decode cX3_from 1 = .ok (.istore_n 3, 1) := by decide +kernel
theorem dX3_from_2 : decode cX3_from 2 = .ok (.iload_n 3, 1) := by decide +kernel
theorem dX3_from_3 : decode cX3_from 3 = .ok (.bipush 16, 2) := by decide +kernel
theorem dX3_from_5 : decode cX3_from 5 = .ok (.if_icmp .ge 20, 3) := by decide +kernel
theorem dX3_from_8 : decode cX3_from 8 = .ok (.lload_n 0, 1) := by decide +kernel
theorem dX3_from_9 : decode cX3_from 9 = .ok (.iload_n 3, 1) := by decide +kernel
theorem dX3_from_10 : decode cX3_from 10 = .ok (.invokestatic 9, 3) := by decide +kernel
theorem dX3_from_13 : decode cX3_from 13 = .ok (.iload_n 2, 1) := by decide +kernel
theorem dX3_from_14 : decode cX3_from 14 = .ok (.if_icmp .ne 5, 3) := by decide +kernel
theorem dX3_from_17 : decode cX3_from 17 = .ok (.iload_n 3, 1) := by decide +kernel
theorem dX3_from_18 : decode cX3_from 18 = .ok (.ireturn, 1) := by decide +kernel
theorem dX3_from_19 : decode cX3_from 19 = .ok (.iinc 3 1, 3) := by decide +kernel
theorem dX3_from_22 : decode cX3_from 22 = .ok (.goto (-20), 3) := by decide +kernel
theorem dX3_from_25 : decode cX3_from 25 = .ok (.iconst 0, 1) := by decide +kernel
theorem dX3_from_26 : decode cX3_from 26 = .ok (.ireturn, 1) := by decide +kernel
theorem dX3_with_0 : decode cX3_with 0 = .ok (.lload_n 0, 1) := by decide +kernel
theorem dX3_with_1 : decode cX3_with 1 = .ok (.ldc2_w 15, 3) := by decide +kernel
theorem dX3_with_4 : decode cX3_with 4 = .ok (.iconst 4, 1) := by decide +kernel
theorem dX3_with_5 : decode cX3_with 5 = .ok (.iload_n 2, 1) := by decide +kernel
theorem dX3_with_6 : decode cX3_with 6 = .ok (.imul, 1) := by decide +kernel
theorem dX3_with_7 : decode cX3_with 7 = .ok (.lshl, 1) := by decide +kernel
theorem dX3_with_8 : decode cX3_with 8 = .ok (.ldc2_w 17, 3) := by decide +kernel
theorem dX3_with_11 : decode cX3_with 11 = .ok (.lxor, 1) := by decide +kernel
theorem dX3_with_12 : decode cX3_with 12 = .ok (.land, 1) := by decide +kernel
theorem dX3_with_13 : decode cX3_with 13 = .ok (.lstore 4, 2) := by decide +kernel
theorem dX3_with_15 : decode cX3_with 15 = .ok (.lload 4, 2) := by decide +kernel
theorem dX3_with_17 : decode cX3_with 17 = .ok (.iload_n 3, 1) := by decide +kernel
theorem dX3_with_18 : decode cX3_with 18 = .ok (.bipush 15, 2) := by decide +kernel
theorem dX3_with_20 : decode cX3_with 20 = .ok (.iand, 1) := by decide +kernel
theorem dX3_with_21 : decode cX3_with 21 = .ok (.i2l, 1) := by decide +kernel
theorem dX3_with_22 : decode cX3_with 22 = .ok (.iconst 4, 1) := by decide +kernel
theorem dX3_with_23 : decode cX3_with 23 = .ok (.iload_n 2, 1) := by decide +kernel
theorem dX3_with_24 : decode cX3_with 24 = .ok (.imul, 1) := by decide +kernel
theorem dX3_with_25 : decode cX3_with 25 = .ok (.lshl, 1) := by decide +kernel
theorem dX3_with_26 : decode cX3_with 26 = .ok (.lor, 1) := by decide +kernel
theorem dX3_with_27 : decode cX3_with 27 = .ok (.lreturn, 1) := by decide +kernel
theorem dX3_then_0 : decode cX3_then 0 = .ok (.lconst 0, 1) := by decide +kernel
theorem dX3_then_1 : decode cX3_then 1 = .ok (.lstore 4, 2) := by decide +kernel
theorem dX3_then_3 : decode cX3_then 3 = .ok (.iconst 0, 1) := by decide +kernel
theorem dX3_then_4 : decode cX3_then 4 = .ok (.istore 6, 2) := by decide +kernel
theorem dX3_then_6 : decode cX3_then 6 = .ok (.iload 6, 2) := by decide +kernel
theorem dX3_then_8 : decode cX3_then 8 = .ok (.bipush 16, 2) := by decide +kernel
theorem dX3_then_10 : decode cX3_then 10 = .ok (.if_icmp .ge 28, 3) := by decide +kernel
theorem dX3_then_13 : decode cX3_then 13 = .ok (.lload 4, 2) := by decide +kernel
theorem dX3_then_15 : decode cX3_then 15 = .ok (.iload 6, 2) := by decide +kernel
theorem dX3_then_17 : decode cX3_then 17 = .ok (.lload_n 2, 1) := by decide +kernel
theorem dX3_then_18 : decode cX3_then 18 = .ok (.lload_n 0, 1) := by decide +kernel
theorem dX3_then_19 : decode cX3_then 19 = .ok (.iload 6, 2) := by decide +kernel
theorem dX3_then_21 : decode cX3_then 21 = .ok (.invokestatic 9, 3) := by decide +kernel
theorem dX3_then_24 : decode cX3_then 24 = .ok (.invokestatic 9, 3) := by decide +kernel
theorem dX3_then_27 : decode cX3_then 27 = .ok (.invokestatic 19, 3) := by decide +kernel
theorem dX3_then_30 : decode cX3_then 30 = .ok (.lstore 4, 2) := by decide +kernel
theorem dX3_then_32 : decode cX3_then 32 = .ok (.iinc 6 1, 3) := by decide +kernel
theorem dX3_then_35 : decode cX3_then 35 = .ok (.goto (-29), 3) := by decide +kernel
theorem dX3_then_38 : decode cX3_then 38 = .ok (.lload 4, 2) := by decide +kernel
theorem dX3_then_40 : decode cX3_then 40 = .ok (.lreturn, 1) := by decide +kernel
theorem dX3_inverse_0 : decode cX3_inverse 0 = .ok (.lconst 0, 1) := by decide +kernel
theorem dX3_inverse_1 : decode cX3_inverse 1 = .ok (.lstore_n 2, 1) := by decide +kernel
theorem dX3_inverse_2 : decode cX3_inverse 2 = .ok (.iconst 0, 1) := by decide +kernel
theorem dX3_inverse_3 : decode cX3_inverse 3 = .ok (.istore 4, 2) := by decide +kernel
theorem dX3_inverse_5 : decode cX3_inverse 5 = .ok (.iload 4, 2) := by decide +kernel
theorem dX3_inverse_7 : decode cX3_inverse 7 = .ok (.bipush 16, 2) := by decide +kernel
theorem dX3_inverse_9 : decode cX3_inverse 9 = .ok (.if_icmp .ge 22, 3) := by decide +kernel
theorem dX3_inverse_12 : decode cX3_inverse 12 = .ok (.lload_n 2, 1) := by decide +kernel
theorem dX3_inverse_13 : decode cX3_inverse 13 = .ok (.lload_n 0, 1) := by decide +kernel
theorem dX3_inverse_14 : decode cX3_inverse 14 = .ok (.iload 4, 2) := by decide +kernel
theorem dX3_inverse_16 : decode cX3_inverse 16 = .ok (.invokestatic 9, 3) := by decide +kernel
theorem dX3_inverse_19 : decode cX3_inverse 19 = .ok (.iload 4, 2) := by decide +kernel
theorem dX3_inverse_21 : decode cX3_inverse 21 = .ok (.invokestatic 19, 3) := by decide +kernel
theorem dX3_inverse_24 : decode cX3_inverse 24 = .ok (.lstore_n 2, 1) := by decide +kernel
theorem dX3_inverse_25 : decode cX3_inverse 25 = .ok (.iinc 4 1, 3) := by decide +kernel
theorem dX3_inverse_28 : decode cX3_inverse 28 = .ok (.goto (-23), 3) := by decide +kernel
theorem dX3_inverse_31 : decode cX3_inverse 31 = .ok (.lload_n 2, 1) := by decide +kernel
theorem dX3_inverse_32 : decode cX3_inverse 32 = .ok (.lreturn, 1) := by decide +kernel
theorem dX3_times_0 : decode cX3_times 0 = .ok (.lconst 0, 1) := by decide +kernel
theorem dX3_times_1 : decode cX3_times 1 = .ok (.lstore_n 3, 1) := by decide +kernel
theorem dX3_times_2 : decode cX3_times 2 = .ok (.iconst 0, 1) := by decide +kernel
theorem dX3_times_3 : decode cX3_times 3 = .ok (.istore 5, 2) := by decide +kernel
theorem dX3_times_5 : decode cX3_times 5 = .ok (.iload 5, 2) := by decide +kernel
theorem dX3_times_7 : decode cX3_times 7 = .ok (.bipush 16, 2) := by decide +kernel
theorem dX3_times_9 : decode cX3_times 9 = .ok (.if_icmp .ge 23, 3) := by decide +kernel
theorem dX3_times_12 : decode cX3_times 12 = .ok (.lload_n 3, 1) := by decide +kernel
theorem dX3_times_13 : decode cX3_times 13 = .ok (.iload 5, 2) := by decide +kernel
theorem dX3_times_15 : decode cX3_times 15 = .ok (.lload_n 0, 1) := by decide +kernel
theorem dX3_times_16 : decode cX3_times 16 = .ok (.iload_n 2, 1) := by decide +kernel
theorem dX3_times_17 : decode cX3_times 17 = .ok (.iload 5, 2) := by decide +kernel
theorem dX3_times_19 : decode cX3_times 19 = .ok (.invokestatic 23, 3) := by decide +kernel
theorem dX3_times_22 : decode cX3_times 22 = .ok (.invokestatic 19, 3) := by decide +kernel
theorem dX3_times_25 : decode cX3_times 25 = .ok (.lstore_n 3, 1) := by decide +kernel
theorem dX3_times_26 : decode cX3_times 26 = .ok (.iinc 5 1, 3) := by decide +kernel
theorem dX3_times_29 : decode cX3_times 29 = .ok (.goto (-24), 3) := by decide +kernel
theorem dX3_times_32 : decode cX3_times 32 = .ok (.lload_n 3, 1) := by decide +kernel
theorem dX3_times_33 : decode cX3_times 33 = .ok (.lreturn, 1) := by decide +kernel
theorem dX3_toAfter_0 : decode cX3_toAfter 0 = .ok (.lload_n 0, 1) := by decide +kernel
theorem dX3_toAfter_1 : decode cX3_toAfter 1 = .ok (.iload_n 3, 1) := by decide +kernel
theorem dX3_toAfter_2 : decode cX3_toAfter 2 = .ok (.invokestatic 27, 3) := by decide +kernel
theorem dX3_toAfter_5 : decode cX3_toAfter 5 = .ok (.istore 4, 2) := by decide +kernel
theorem dX3_toAfter_7 : decode cX3_toAfter 7 = .ok (.iload 4, 2) := by decide +kernel
theorem dX3_toAfter_9 : decode cX3_toAfter 9 = .ok (.ifCond .le 12, 3) := by decide +kernel
theorem dX3_toAfter_12 : decode cX3_toAfter 12 = .ok (.iload_n 2, 1) := by decide +kernel
theorem dX3_toAfter_13 : decode cX3_toAfter 13 = .ok (.iload 4, 2) := by decide +kernel
theorem dX3_toAfter_15 : decode cX3_toAfter 15 = .ok (.invokestatic 30, 3) := by decide +kernel
theorem dX3_toAfter_18 : decode cX3_toAfter 18 = .ok (.goto 4, 3) := by decide +kernel
theorem dX3_toAfter_21 : decode cX3_toAfter 21 = .ok (.iconst 0, 1) := by decide +kernel
theorem dX3_toAfter_22 : decode cX3_toAfter 22 = .ok (.istore 5, 2) := by decide +kernel
theorem dX3_toAfter_24 : decode cX3_toAfter 24 = .ok (.iload_n 3, 1) := by decide +kernel
theorem dX3_toAfter_25 : decode cX3_toAfter 25 = .ok (.istore 6, 2) := by decide +kernel
theorem dX3_toAfter_27 : decode cX3_toAfter 27 = .ok (.iconst 0, 1) := by decide +kernel
theorem dX3_toAfter_28 : decode cX3_toAfter 28 = .ok (.istore 7, 2) := by decide +kernel
theorem dX3_toAfter_30 : decode cX3_toAfter 30 = .ok (.iload 7, 2) := by decide +kernel
theorem dX3_toAfter_32 : decode cX3_toAfter 32 = .ok (.iload 5, 2) := by decide +kernel
theorem dX3_toAfter_34 : decode cX3_toAfter 34 = .ok (.if_icmp .ge 17, 3) := by decide +kernel
theorem dX3_toAfter_37 : decode cX3_toAfter 37 = .ok (.lload_n 0, 1) := by decide +kernel
theorem dX3_toAfter_38 : decode cX3_toAfter 38 = .ok (.iload 6, 2) := by decide +kernel
theorem dX3_toAfter_40 : decode cX3_toAfter 40 = .ok (.invokestatic 9, 3) := by decide +kernel
theorem dX3_toAfter_43 : decode cX3_toAfter 43 = .ok (.istore 6, 2) := by decide +kernel
theorem dX3_toAfter_45 : decode cX3_toAfter 45 = .ok (.iinc 7 1, 3) := by decide +kernel
theorem dX3_toAfter_48 : decode cX3_toAfter 48 = .ok (.goto (-18), 3) := by decide +kernel
theorem dX3_toAfter_51 : decode cX3_toAfter 51 = .ok (.iload 6, 2) := by decide +kernel
theorem dX3_toAfter_53 : decode cX3_toAfter 53 = .ok (.ireturn, 1) := by decide +kernel
theorem dX3_cycleLength_0 : decode cX3_cycleLength 0 = .ok (.iconst 1, 1) := by decide +kernel
theorem dX3_cycleLength_1 : decode cX3_cycleLength 1 = .ok (.istore_n 3, 1) := by decide +kernel
theorem dX3_cycleLength_2 : decode cX3_cycleLength 2 = .ok (.lload_n 0, 1) := by decide +kernel
theorem dX3_cycleLength_3 : decode cX3_cycleLength 3 = .ok (.iload_n 2, 1) := by decide +kernel
theorem dX3_cycleLength_4 : decode cX3_cycleLength 4 = .ok (.invokestatic 9, 3) := by decide +kernel
theorem dX3_cycleLength_7 : decode cX3_cycleLength 7 = .ok (.istore 4, 2) := by decide +kernel
theorem dX3_cycleLength_9 : decode cX3_cycleLength 9 = .ok (.iload 4, 2) := by decide +kernel
theorem dX3_cycleLength_11 : decode cX3_cycleLength 11 = .ok (.iload_n 2, 1) := by decide +kernel
theorem dX3_cycleLength_12 : decode cX3_cycleLength 12 = .ok (.if_icmp .eq 23, 3) := by decide +kernel
theorem dX3_cycleLength_15 : decode cX3_cycleLength 15 = .ok (.iload_n 3, 1) := by decide +kernel
theorem dX3_cycleLength_16 : decode cX3_cycleLength 16 = .ok (.bipush 16, 2) := by decide +kernel
theorem dX3_cycleLength_18 : decode cX3_cycleLength 18 = .ok (.if_icmp .ge 17, 3) := by decide +kernel
theorem dX3_cycleLength_21 : decode cX3_cycleLength 21 = .ok (.lload_n 0, 1) := by decide +kernel
theorem dX3_cycleLength_22 : decode cX3_cycleLength 22 = .ok (.iload 4, 2) := by decide +kernel
theorem dX3_cycleLength_24 : decode cX3_cycleLength 24 = .ok (.invokestatic 9, 3) := by decide +kernel
theorem dX3_cycleLength_27 : decode cX3_cycleLength 27 = .ok (.istore 4, 2) := by decide +kernel
theorem dX3_cycleLength_29 : decode cX3_cycleLength 29 = .ok (.iinc 3 1, 3) := by decide +kernel
theorem dX3_cycleLength_32 : decode cX3_cycleLength 32 = .ok (.goto (-23), 3) := by decide +kernel
theorem dX3_cycleLength_35 : decode cX3_cycleLength 35 = .ok (.iload_n 3, 1) := by decide +kernel
theorem dX3_cycleLength_36 : decode cX3_cycleLength 36 = .ok (.ireturn, 1) := by decide +kernel
theorem dX3_fixedPlaces_0 : decode cX3_fixedPlaces 0 = .ok (.iconst 0, 1) := by decide +kernel
theorem dX3_fixedPlaces_1 : decode cX3_fixedPlaces 1 = .ok (.istore_n 3, 1) := by decide +kernel
theorem dX3_fixedPlaces_2 : decode cX3_fixedPlaces 2 = .ok (.iconst 0, 1) := by decide +kernel
theorem dX3_fixedPlaces_3 : decode cX3_fixedPlaces 3 = .ok (.istore 4, 2) := by decide +kernel
theorem dX3_fixedPlaces_5 : decode cX3_fixedPlaces 5 = .ok (.iload 4, 2) := by decide +kernel
theorem dX3_fixedPlaces_7 : decode cX3_fixedPlaces 7 = .ok (.iload_n 2, 1) := by decide +kernel
theorem dX3_fixedPlaces_8 : decode cX3_fixedPlaces 8 = .ok (.if_icmp .ge 27, 3) := by decide +kernel
theorem dX3_fixedPlaces_11 : decode cX3_fixedPlaces 11 = .ok (.lload_n 0, 1) := by decide +kernel
theorem dX3_fixedPlaces_12 : decode cX3_fixedPlaces 12 = .ok (.iload 4, 2) := by decide +kernel
theorem dX3_fixedPlaces_14 : decode cX3_fixedPlaces 14 = .ok (.invokestatic 9, 3) := by decide +kernel
theorem dX3_fixedPlaces_17 : decode cX3_fixedPlaces 17 = .ok (.iload 4, 2) := by decide +kernel
theorem dX3_fixedPlaces_19 : decode cX3_fixedPlaces 19 = .ok (.if_icmp .ne 10, 3) := by decide +kernel
theorem dX3_fixedPlaces_22 : decode cX3_fixedPlaces 22 = .ok (.iload_n 3, 1) := by decide +kernel
theorem dX3_fixedPlaces_23 : decode cX3_fixedPlaces 23 = .ok (.iconst 1, 1) := by decide +kernel
theorem dX3_fixedPlaces_24 : decode cX3_fixedPlaces 24 = .ok (.iload 4, 2) := by decide +kernel
theorem dX3_fixedPlaces_26 : decode cX3_fixedPlaces 26 = .ok (.ishl, 1) := by decide +kernel
theorem dX3_fixedPlaces_27 : decode cX3_fixedPlaces 27 = .ok (.ior, 1) := by decide +kernel
theorem dX3_fixedPlaces_28 : decode cX3_fixedPlaces 28 = .ok (.istore_n 3, 1) := by decide +kernel
theorem dX3_fixedPlaces_29 : decode cX3_fixedPlaces 29 = .ok (.iinc 4 1, 3) := by decide +kernel
theorem dX3_fixedPlaces_32 : decode cX3_fixedPlaces 32 = .ok (.goto (-27), 3) := by decide +kernel
theorem dX3_fixedPlaces_35 : decode cX3_fixedPlaces 35 = .ok (.iload_n 3, 1) := by decide +kernel
theorem dX3_fixedPlaces_36 : decode cX3_fixedPlaces 36 = .ok (.ireturn, 1) := by decide +kernel
theorem dX4_init_0 : decode cX4_init 0 = .ok (.aload_n 0, 1) := by decide +kernel
theorem dX4_init_1 : decode cX4_init 1 = .ok (.invokespecial 1, 3) := by decide +kernel
theorem dX4_init_4 : decode cX4_init 4 = .ok (.iload_n 1, 1) := by decide +kernel
theorem dX4_init_5 : decode cX4_init 5 = .ok (.ifCond .le 7, 3) := by decide +kernel
theorem dX4_init_8 : decode cX4_init 8 = .ok (.iload_n 1, 1) := by decide +kernel
theorem dX4_init_9 : decode cX4_init 9 = .ok (.goto 4, 3) := by decide +kernel
theorem dX4_init_12 : decode cX4_init 12 = .ok (.iconst 0, 1) := by decide +kernel
theorem dX4_init_13 : decode cX4_init 13 = .ok (.istore_n 2, 1) := by decide +kernel
theorem dX4_init_14 : decode cX4_init 14 = .ok (.aload_n 0, 1) := by decide +kernel
theorem dX4_init_15 : decode cX4_init 15 = .ok (.iload_n 2, 1) := by decide +kernel
theorem dX4_init_16 : decode cX4_init 16 = .ok (.anewarray 7, 3) := by decide +kernel
theorem dX4_init_19 : decode cX4_init 19 = .ok (.putfield 9, 3) := by decide +kernel
theorem dX4_init_22 : decode cX4_init 22 = .ok (.aload_n 0, 1) := by decide +kernel
theorem dX4_init_23 : decode cX4_init 23 = .ok (.iload_n 2, 1) := by decide +kernel
theorem dX4_init_24 : decode cX4_init 24 = .ok (.newarray .boolean, 2) := by decide +kernel
theorem dX4_init_26 : decode cX4_init 26 = .ok (.putfield 15, 3) := by decide +kernel
theorem dX4_init_29 : decode cX4_init 29 = .ok (.iconst 0, 1) := by decide +kernel
theorem dX4_init_30 : decode cX4_init 30 = .ok (.istore_n 3, 1) := by decide +kernel
theorem dX4_init_31 : decode cX4_init 31 = .ok (.iload_n 3, 1) := by decide +kernel
theorem dX4_init_32 : decode cX4_init 32 = .ok (.aload_n 0, 1) := by decide +kernel
theorem dX4_init_33 : decode cX4_init 33 = .ok (.getfield 9, 3) := by decide +kernel
theorem dX4_init_36 : decode cX4_init 36 = .ok (.arraylength, 1) := by decide +kernel
theorem dX4_init_37 : decode cX4_init 37 = .ok (.if_icmp .ge 22, 3) := by decide +kernel
theorem dX4_init_40 : decode cX4_init 40 = .ok (.aload_n 0, 1) := by decide +kernel
theorem dX4_init_41 : decode cX4_init 41 = .ok (.getfield 9, 3) := by decide +kernel
theorem dX4_init_44 : decode cX4_init 44 = .ok (.iload_n 3, 1) := by decide +kernel
theorem dX4_init_45 : decode cX4_init 45 = .ok (.new 7, 3) := by decide +kernel
theorem dX4_init_48 : decode cX4_init 48 = .ok (.dup, 1) := by decide +kernel
theorem dX4_init_49 : decode cX4_init 49 = .ok (.invokespecial 19, 3) := by decide +kernel
theorem dX4_init_52 : decode cX4_init 52 = .ok (.aastore, 1) := by decide +kernel
theorem dX4_init_53 : decode cX4_init 53 = .ok (.iinc 3 1, 3) := by decide +kernel
theorem dX4_init_56 : decode cX4_init 56 = .ok (.goto (-25), 3) := by decide +kernel
theorem dX4_init_59 : decode cX4_init 59 = .ok (.return_, 1) := by decide +kernel
theorem dX4_hasPlace_0 : decode cX4_hasPlace 0 = .ok (.iload_n 1, 1) := by decide +kernel
theorem dX4_hasPlace_1 : decode cX4_hasPlace 1 = .ok (.ifCond .lt 25, 3) := by decide +kernel
theorem dX4_hasPlace_4 : decode cX4_hasPlace 4 = .ok (.iload_n 1, 1) := by decide +kernel
theorem dX4_hasPlace_5 : decode cX4_hasPlace 5 = .ok (.aload_n 0, 1) := by decide +kernel
theorem dX4_hasPlace_6 : decode cX4_hasPlace 6 = .ok (.getfield 9, 3) := by decide +kernel
theorem dX4_hasPlace_9 : decode cX4_hasPlace 9 = .ok (.arraylength, 1) := by decide +kernel
theorem dX4_hasPlace_10 : decode cX4_hasPlace 10 = .ok (.if_icmp .ge 16, 3) := by decide +kernel
theorem dX4_hasPlace_13 : decode cX4_hasPlace 13 = .ok (.iload_n 1, 1) := by decide +kernel
theorem dX4_hasPlace_14 : decode cX4_hasPlace 14 = .ok (.aload_n 0, 1) := by decide +kernel
theorem dX4_hasPlace_15 : decode cX4_hasPlace 15 = .ok (.getfield 15, 3) := by decide +kernel
theorem dX4_hasPlace_18 : decode cX4_hasPlace 18 = .ok (.arraylength, 1) := by decide +kernel
theorem dX4_hasPlace_19 : decode cX4_hasPlace 19 = .ok (.if_icmp .ge 7, 3) := by decide +kernel
theorem dX4_hasPlace_22 : decode cX4_hasPlace 22 = .ok (.iconst 1, 1) := by decide +kernel
theorem dX4_hasPlace_23 : decode cX4_hasPlace 23 = .ok (.goto 4, 3) := by decide +kernel
theorem dX4_hasPlace_26 : decode cX4_hasPlace 26 = .ok (.iconst 0, 1) := by decide +kernel
theorem dX4_hasPlace_27 : decode cX4_hasPlace 27 = .ok (.ireturn, 1) := by decide +kernel
theorem dX4_isFull_0 : decode cX4_isFull 0 = .ok (.aload_n 0, 1) := by decide +kernel
theorem dX4_isFull_1 : decode cX4_isFull 1 = .ok (.iload_n 1, 1) := by decide +kernel
theorem dX4_isFull_2 : decode cX4_isFull 2 = .ok (.invokevirtual 20, 3) := by decide +kernel
theorem dX4_isFull_5 : decode cX4_isFull 5 = .ok (.ifCond .eq 16, 3) := by decide +kernel
theorem dX4_isFull_8 : decode cX4_isFull 8 = .ok (.aload_n 0, 1) := by decide +kernel
theorem dX4_isFull_9 : decode cX4_isFull 9 = .ok (.getfield 15, 3) := by decide +kernel
theorem dX4_isFull_12 : decode cX4_isFull 12 = .ok (.iload_n 1, 1) := by decide +kernel
theorem dX4_isFull_13 : decode cX4_isFull 13 = .ok (.baload, 1) := by decide +kernel
theorem dX4_isFull_14 : decode cX4_isFull 14 = .ok (.ifCond .eq 7, 3) := by decide +kernel
theorem dX4_isFull_17 : decode cX4_isFull 17 = .ok (.iconst 1, 1) := by decide +kernel
theorem dX4_isFull_18 : decode cX4_isFull 18 = .ok (.goto 4, 3) := by decide +kernel
theorem dX4_isFull_21 : decode cX4_isFull 21 = .ok (.iconst 0, 1) := by decide +kernel
theorem dX4_isFull_22 : decode cX4_isFull 22 = .ok (.ireturn, 1) := by decide +kernel
theorem dX4_keep_0 : decode cX4_keep 0 = .ok (.aload_n 0, 1) := by decide +kernel
theorem dX4_keep_1 : decode cX4_keep 1 = .ok (.iload_n 1, 1) := by decide +kernel
theorem dX4_keep_2 : decode cX4_keep 2 = .ok (.invokevirtual 20, 3) := by decide +kernel
theorem dX4_keep_5 : decode cX4_keep 5 = .ok (.ifCond .eq 33, 3) := by decide +kernel
theorem dX4_keep_8 : decode cX4_keep 8 = .ok (.aload_n 0, 1) := by decide +kernel
theorem dX4_keep_9 : decode cX4_keep 9 = .ok (.getfield 9, 3) := by decide +kernel
theorem dX4_keep_12 : decode cX4_keep 12 = .ok (.iload_n 1, 1) := by decide +kernel
theorem dX4_keep_13 : decode cX4_keep 13 = .ok (.aaload, 1) := by decide +kernel
theorem dX4_keep_14 : decode cX4_keep 14 = .ok (.ifnull 24, 3) := by decide +kernel
theorem dX4_keep_17 : decode cX4_keep 17 = .ok (.aload_n 2, 1) := by decide +kernel
theorem dX4_keep_18 : decode cX4_keep 18 = .ok (.ifnull 20, 3) := by decide +kernel
theorem dX4_keep_21 : decode cX4_keep 21 = .ok (.aload_n 0, 1) := by decide +kernel
theorem dX4_keep_22 : decode cX4_keep 22 = .ok (.getfield 9, 3) := by decide +kernel
theorem dX4_keep_25 : decode cX4_keep 25 = .ok (.iload_n 1, 1) := by decide +kernel
theorem dX4_keep_26 : decode cX4_keep 26 = .ok (.aaload, 1) := by decide +kernel
theorem dX4_keep_27 : decode cX4_keep 27 = .ok (.aload_n 2, 1) := by decide +kernel
theorem dX4_keep_28 : decode cX4_keep 28 = .ok (.invokevirtual 24, 3) := by decide +kernel
theorem dX4_keep_31 : decode cX4_keep 31 = .ok (.aload_n 0, 1) := by decide +kernel
theorem dX4_keep_32 : decode cX4_keep 32 = .ok (.getfield 15, 3) := by decide +kernel
theorem dX4_keep_35 : decode cX4_keep 35 = .ok (.iload_n 1, 1) := by decide +kernel
theorem dX4_keep_36 : decode cX4_keep 36 = .ok (.iconst 1, 1) := by decide +kernel
theorem dX4_keep_37 : decode cX4_keep 37 = .ok (.bastore, 1) := by decide +kernel
theorem dX4_keep_38 : decode cX4_keep 38 = .ok (.return_, 1) := by decide +kernel
theorem dX4_bring_0 : decode cX4_bring 0 = .ok (.aload_n 0, 1) := by decide +kernel
theorem dX4_bring_1 : decode cX4_bring 1 = .ok (.iload_n 1, 1) := by decide +kernel
theorem dX4_bring_2 : decode cX4_bring 2 = .ok (.invokevirtual 20, 3) := by decide +kernel
theorem dX4_bring_5 : decode cX4_bring 5 = .ok (.ifCond .eq 26, 3) := by decide +kernel
theorem dX4_bring_8 : decode cX4_bring 8 = .ok (.aload_n 0, 1) := by decide +kernel
theorem dX4_bring_9 : decode cX4_bring 9 = .ok (.getfield 9, 3) := by decide +kernel
theorem dX4_bring_12 : decode cX4_bring 12 = .ok (.iload_n 1, 1) := by decide +kernel
theorem dX4_bring_13 : decode cX4_bring 13 = .ok (.aaload, 1) := by decide +kernel
theorem dX4_bring_14 : decode cX4_bring 14 = .ok (.ifnull 17, 3) := by decide +kernel
theorem dX4_bring_17 : decode cX4_bring 17 = .ok (.aload_n 2, 1) := by decide +kernel
theorem dX4_bring_18 : decode cX4_bring 18 = .ok (.ifnull 13, 3) := by decide +kernel
theorem dX4_bring_21 : decode cX4_bring 21 = .ok (.aload_n 2, 1) := by decide +kernel
theorem dX4_bring_22 : decode cX4_bring 22 = .ok (.aload_n 0, 1) := by decide +kernel
theorem dX4_bring_23 : decode cX4_bring 23 = .ok (.getfield 9, 3) := by decide +kernel
theorem dX4_bring_26 : decode cX4_bring 26 = .ok (.iload_n 1, 1) := by decide +kernel
theorem dX4_bring_27 : decode cX4_bring 27 = .ok (.aaload, 1) := by decide +kernel
theorem dX4_bring_28 : decode cX4_bring 28 = .ok (.invokevirtual 24, 3) := by decide +kernel
theorem dX4_bring_31 : decode cX4_bring 31 = .ok (.return_, 1) := by decide +kernel
theorem dX5_cutTo_0 : decode cX5_cutTo 0 = .ok (.iload_n 1, 1) := by decide +kernel
theorem dX5_cutTo_1 : decode cX5_cutTo 1 = .ok (.iload_n 0, 1) := by decide +kernel
theorem dX5_cutTo_2 : decode cX5_cutTo 2 = .ok (.if_icmp .ge 11, 3) := by decide +kernel
theorem dX5_cutTo_5 : decode cX5_cutTo 5 = .ok (.iload_n 1, 1) := by decide +kernel
theorem dX5_cutTo_6 : decode cX5_cutTo 6 = .ok (.iload_n 0, 1) := by decide +kernel
theorem dX5_cutTo_7 : decode cX5_cutTo 7 = .ok (.isub, 1) := by decide +kernel
theorem dX5_cutTo_8 : decode cX5_cutTo 8 = .ok (.iload_n 2, 1) := by decide +kernel
theorem dX5_cutTo_9 : decode cX5_cutTo 9 = .ok (.iadd, 1) := by decide +kernel
theorem dX5_cutTo_10 : decode cX5_cutTo 10 = .ok (.goto 6, 3) := by decide +kernel
theorem dX5_cutTo_13 : decode cX5_cutTo 13 = .ok (.iload_n 1, 1) := by decide +kernel
theorem dX5_cutTo_14 : decode cX5_cutTo 14 = .ok (.iload_n 0, 1) := by decide +kernel
theorem dX5_cutTo_15 : decode cX5_cutTo 15 = .ok (.isub, 1) := by decide +kernel
theorem dX5_cutTo_16 : decode cX5_cutTo 16 = .ok (.ireturn, 1) := by decide +kernel
theorem dX5_riffleTo_0 : decode cX5_riffleTo 0 = .ok (.iload_n 0, 1) := by decide +kernel
theorem dX5_riffleTo_1 : decode cX5_riffleTo 1 = .ok (.ifCond .eq 9, 3) := by decide +kernel
theorem dX5_riffleTo_4 : decode cX5_riffleTo 4 = .ok (.iload_n 2, 1) := by decide +kernel
theorem dX5_riffleTo_5 : decode cX5_riffleTo 5 = .ok (.iconst 2, 1) := by decide +kernel
theorem dX5_riffleTo_6 : decode cX5_riffleTo 6 = .ok (.idiv, 1) := by decide +kernel
theorem dX5_riffleTo_7 : decode cX5_riffleTo 7 = .ok (.goto 8, 3) := by decide +kernel
theorem dX5_riffleTo_10 : decode cX5_riffleTo 10 = .ok (.iload_n 2, 1) := by decide +kernel
theorem dX5_riffleTo_11 : decode cX5_riffleTo 11 = .ok (.iconst 1, 1) := by decide +kernel
theorem dX5_riffleTo_12 : decode cX5_riffleTo 12 = .ok (.iadd, 1) := by decide +kernel
theorem dX5_riffleTo_13 : decode cX5_riffleTo 13 = .ok (.iconst 2, 1) := by decide +kernel
theorem dX5_riffleTo_14 : decode cX5_riffleTo 14 = .ok (.idiv, 1) := by decide +kernel
theorem dX5_riffleTo_15 : decode cX5_riffleTo 15 = .ok (.istore_n 3, 1) := by decide +kernel
theorem dX5_riffleTo_16 : decode cX5_riffleTo 16 = .ok (.iload_n 0, 1) := by decide +kernel
theorem dX5_riffleTo_17 : decode cX5_riffleTo 17 = .ok (.ifCond .eq 7, 3) := by decide +kernel
theorem dX5_riffleTo_20 : decode cX5_riffleTo 20 = .ok (.iconst 1, 1) := by decide +kernel
theorem dX5_riffleTo_21 : decode cX5_riffleTo 21 = .ok (.goto 4, 3) := by decide +kernel
theorem dX5_riffleTo_24 : decode cX5_riffleTo 24 = .ok (.iconst 0, 1) := by decide +kernel
theorem dX5_riffleTo_25 : decode cX5_riffleTo 25 = .ok (.istore 4, 2) := by decide +kernel
theorem dX5_riffleTo_27 : decode cX5_riffleTo 27 = .ok (.iload_n 1, 1) := by decide +kernel
theorem dX5_riffleTo_28 : decode cX5_riffleTo 28 = .ok (.iload_n 3, 1) := by decide +kernel
theorem dX5_riffleTo_29 : decode cX5_riffleTo 29 = .ok (.if_icmp .ge 12, 3) := by decide +kernel
theorem dX5_riffleTo_32 : decode cX5_riffleTo 32 = .ok (.iconst 2, 1) := by decide +kernel
theorem dX5_riffleTo_33 : decode cX5_riffleTo 33 = .ok (.iload_n 1, 1) := by decide +kernel
theorem dX5_riffleTo_34 : decode cX5_riffleTo 34 = .ok (.imul, 1) := by decide +kernel
theorem dX5_riffleTo_35 : decode cX5_riffleTo 35 = .ok (.iload 4, 2) := by decide +kernel
theorem dX5_riffleTo_37 : decode cX5_riffleTo 37 = .ok (.iadd, 1) := by decide +kernel
theorem dX5_riffleTo_38 : decode cX5_riffleTo 38 = .ok (.goto 13, 3) := by decide +kernel
theorem dX5_riffleTo_41 : decode cX5_riffleTo 41 = .ok (.iconst 2, 1) := by decide +kernel
theorem dX5_riffleTo_42 : decode cX5_riffleTo 42 = .ok (.iload_n 1, 1) := by decide +kernel
theorem dX5_riffleTo_43 : decode cX5_riffleTo 43 = .ok (.iload_n 3, 1) := by decide +kernel
theorem dX5_riffleTo_44 : decode cX5_riffleTo 44 = .ok (.isub, 1) := by decide +kernel
theorem dX5_riffleTo_45 : decode cX5_riffleTo 45 = .ok (.imul, 1) := by decide +kernel
theorem dX5_riffleTo_46 : decode cX5_riffleTo 46 = .ok (.iconst 1, 1) := by decide +kernel
theorem dX5_riffleTo_47 : decode cX5_riffleTo 47 = .ok (.iadd, 1) := by decide +kernel
theorem dX5_riffleTo_48 : decode cX5_riffleTo 48 = .ok (.iload 4, 2) := by decide +kernel
theorem dX5_riffleTo_50 : decode cX5_riffleTo 50 = .ok (.isub, 1) := by decide +kernel
theorem dX5_riffleTo_51 : decode cX5_riffleTo 51 = .ok (.ireturn, 1) := by decide +kernel
theorem dX5_stepTo_0 : decode cX5_stepTo 0 = .ok (.iload_n 0, 1) := by decide +kernel
theorem dX5_stepTo_1 : decode cX5_stepTo 1 = .ok (.tableswitch 48 0 2 #[27, 34, 41], 27) := by decide +kernel
theorem dX5_stepTo_28 : decode cX5_stepTo 28 = .ok (.iconst 1, 1) := by decide +kernel
theorem dX5_stepTo_29 : decode cX5_stepTo 29 = .ok (.iload_n 1, 1) := by decide +kernel
theorem dX5_stepTo_30 : decode cX5_stepTo 30 = .ok (.iload_n 2, 1) := by decide +kernel
theorem dX5_stepTo_31 : decode cX5_stepTo 31 = .ok (.invokestatic 7, 3) := by decide +kernel
theorem dX5_stepTo_34 : decode cX5_stepTo 34 = .ok (.ireturn, 1) := by decide +kernel
theorem dX5_stepTo_35 : decode cX5_stepTo 35 = .ok (.iconst 0, 1) := by decide +kernel
theorem dX5_stepTo_36 : decode cX5_stepTo 36 = .ok (.iload_n 1, 1) := by decide +kernel
theorem dX5_stepTo_37 : decode cX5_stepTo 37 = .ok (.iload_n 2, 1) := by decide +kernel
theorem dX5_stepTo_38 : decode cX5_stepTo 38 = .ok (.invokestatic 13, 3) := by decide +kernel
theorem dX5_stepTo_41 : decode cX5_stepTo 41 = .ok (.ireturn, 1) := by decide +kernel
theorem dX5_stepTo_42 : decode cX5_stepTo 42 = .ok (.iconst 1, 1) := by decide +kernel
theorem dX5_stepTo_43 : decode cX5_stepTo 43 = .ok (.iload_n 1, 1) := by decide +kernel
theorem dX5_stepTo_44 : decode cX5_stepTo 44 = .ok (.iload_n 2, 1) := by decide +kernel
theorem dX5_stepTo_45 : decode cX5_stepTo 45 = .ok (.invokestatic 13, 3) := by decide +kernel
theorem dX5_stepTo_48 : decode cX5_stepTo 48 = .ok (.ireturn, 1) := by decide +kernel
theorem dX5_stepTo_49 : decode cX5_stepTo 49 = .ok (.iload_n 2, 1) := by decide +kernel
theorem dX5_stepTo_50 : decode cX5_stepTo 50 = .ok (.iconst 1, 1) := by decide +kernel
theorem dX5_stepTo_51 : decode cX5_stepTo 51 = .ok (.isub, 1) := by decide +kernel
theorem dX5_stepTo_52 : decode cX5_stepTo 52 = .ok (.iload_n 1, 1) := by decide +kernel
theorem dX5_stepTo_53 : decode cX5_stepTo 53 = .ok (.isub, 1) := by decide +kernel
theorem dX5_stepTo_54 : decode cX5_stepTo 54 = .ok (.ireturn, 1) := by decide +kernel
theorem dX5_cutBy_0 : decode cX5_cutBy 0 = .ok (.ldc2_w 19, 3) := by decide +kernel
theorem dX5_cutBy_3 : decode cX5_cutBy 3 = .ok (.lstore_n 2, 1) := by decide +kernel
theorem dX5_cutBy_4 : decode cX5_cutBy 4 = .ok (.iconst 0, 1) := by decide +kernel
theorem dX5_cutBy_5 : decode cX5_cutBy 5 = .ok (.istore 4, 2) := by decide +kernel
theorem dX5_cutBy_7 : decode cX5_cutBy 7 = .ok (.iload 4, 2) := by decide +kernel
theorem dX5_cutBy_9 : decode cX5_cutBy 9 = .ok (.iload_n 1, 1) := by decide +kernel
theorem dX5_cutBy_10 : decode cX5_cutBy 10 = .ok (.if_icmp .ge 23, 3) := by decide +kernel
theorem dX5_cutBy_13 : decode cX5_cutBy 13 = .ok (.lload_n 2, 1) := by decide +kernel
theorem dX5_cutBy_14 : decode cX5_cutBy 14 = .ok (.iload 4, 2) := by decide +kernel
theorem dX5_cutBy_16 : decode cX5_cutBy 16 = .ok (.iload_n 0, 1) := by decide +kernel
theorem dX5_cutBy_17 : decode cX5_cutBy 17 = .ok (.iload 4, 2) := by decide +kernel
theorem dX5_cutBy_19 : decode cX5_cutBy 19 = .ok (.iload_n 1, 1) := by decide +kernel
theorem dX5_cutBy_20 : decode cX5_cutBy 20 = .ok (.invokestatic 7, 3) := by decide +kernel
theorem dX5_cutBy_23 : decode cX5_cutBy 23 = .ok (.invokestatic 21, 3) := by decide +kernel
theorem dX5_cutBy_26 : decode cX5_cutBy 26 = .ok (.lstore_n 2, 1) := by decide +kernel
theorem dX5_cutBy_27 : decode cX5_cutBy 27 = .ok (.iinc 4 1, 3) := by decide +kernel
theorem dX5_cutBy_30 : decode cX5_cutBy 30 = .ok (.goto (-23), 3) := by decide +kernel
theorem dX5_cutBy_33 : decode cX5_cutBy 33 = .ok (.lload_n 2, 1) := by decide +kernel
theorem dX5_cutBy_34 : decode cX5_cutBy 34 = .ok (.lreturn, 1) := by decide +kernel
theorem dX5_stepBy_0 : decode cX5_stepBy 0 = .ok (.ldc2_w 19, 3) := by decide +kernel
theorem dX5_stepBy_3 : decode cX5_stepBy 3 = .ok (.lstore_n 2, 1) := by decide +kernel
theorem dX5_stepBy_4 : decode cX5_stepBy 4 = .ok (.iconst 0, 1) := by decide +kernel
theorem dX5_stepBy_5 : decode cX5_stepBy 5 = .ok (.istore 4, 2) := by decide +kernel
theorem dX5_stepBy_7 : decode cX5_stepBy 7 = .ok (.iload 4, 2) := by decide +kernel
theorem dX5_stepBy_9 : decode cX5_stepBy 9 = .ok (.iload_n 1, 1) := by decide +kernel
theorem dX5_stepBy_10 : decode cX5_stepBy 10 = .ok (.if_icmp .ge 23, 3) := by decide +kernel
theorem dX5_stepBy_13 : decode cX5_stepBy 13 = .ok (.lload_n 2, 1) := by decide +kernel
theorem dX5_stepBy_14 : decode cX5_stepBy 14 = .ok (.iload 4, 2) := by decide +kernel
theorem dX5_stepBy_16 : decode cX5_stepBy 16 = .ok (.iload_n 0, 1) := by decide +kernel
theorem dX5_stepBy_17 : decode cX5_stepBy 17 = .ok (.iload 4, 2) := by decide +kernel
theorem dX5_stepBy_19 : decode cX5_stepBy 19 = .ok (.iload_n 1, 1) := by decide +kernel
theorem dX5_stepBy_20 : decode cX5_stepBy 20 = .ok (.invokestatic 25, 3) := by decide +kernel
theorem dX5_stepBy_23 : decode cX5_stepBy 23 = .ok (.invokestatic 21, 3) := by decide +kernel
theorem dX5_stepBy_26 : decode cX5_stepBy 26 = .ok (.lstore_n 2, 1) := by decide +kernel
theorem dX5_stepBy_27 : decode cX5_stepBy 27 = .ok (.iinc 4 1, 3) := by decide +kernel
theorem dX5_stepBy_30 : decode cX5_stepBy 30 = .ok (.goto (-23), 3) := by decide +kernel
theorem dX5_stepBy_33 : decode cX5_stepBy 33 = .ok (.lload_n 2, 1) := by decide +kernel
theorem dX5_stepBy_34 : decode cX5_stepBy 34 = .ok (.lreturn, 1) := by decide +kernel
theorem dX5_becomesBy_0 : decode cX5_becomesBy 0 = .ok (.ldc2_w 19, 3) := by decide +kernel
theorem dX5_becomesBy_3 : decode cX5_becomesBy 3 = .ok (.lstore 4, 2) := by decide +kernel
theorem dX5_becomesBy_5 : decode cX5_becomesBy 5 = .ok (.iconst 0, 1) := by decide +kernel
theorem dX5_becomesBy_6 : decode cX5_becomesBy 6 = .ok (.istore 6, 2) := by decide +kernel
theorem dX5_becomesBy_8 : decode cX5_becomesBy 8 = .ok (.iload 6, 2) := by decide +kernel
theorem dX5_becomesBy_10 : decode cX5_becomesBy 10 = .ok (.iload_n 3, 1) := by decide +kernel
theorem dX5_becomesBy_11 : decode cX5_becomesBy 11 = .ok (.if_icmp .ge 34, 3) := by decide +kernel
theorem dX5_becomesBy_14 : decode cX5_becomesBy 14 = .ok (.lload 4, 2) := by decide +kernel
theorem dX5_becomesBy_16 : decode cX5_becomesBy 16 = .ok (.iload_n 2, 1) := by decide +kernel
theorem dX5_becomesBy_17 : decode cX5_becomesBy 17 = .ok (.iload 6, 2) := by decide +kernel
theorem dX5_becomesBy_19 : decode cX5_becomesBy 19 = .ok (.iload_n 3, 1) := by decide +kernel
theorem dX5_becomesBy_20 : decode cX5_becomesBy 20 = .ok (.invokestatic 7, 3) := by decide +kernel
theorem dX5_becomesBy_23 : decode cX5_becomesBy 23 = .ok (.iload_n 2, 1) := by decide +kernel
theorem dX5_becomesBy_24 : decode cX5_becomesBy 24 = .ok (.lload_n 0, 1) := by decide +kernel
theorem dX5_becomesBy_25 : decode cX5_becomesBy 25 = .ok (.iload 6, 2) := by decide +kernel
theorem dX5_becomesBy_27 : decode cX5_becomesBy 27 = .ok (.invokestatic 28, 3) := by decide +kernel
theorem dX5_becomesBy_30 : decode cX5_becomesBy 30 = .ok (.iload_n 3, 1) := by decide +kernel
theorem dX5_becomesBy_31 : decode cX5_becomesBy 31 = .ok (.invokestatic 7, 3) := by decide +kernel
theorem dX5_becomesBy_34 : decode cX5_becomesBy 34 = .ok (.invokestatic 21, 3) := by decide +kernel
theorem dX5_becomesBy_37 : decode cX5_becomesBy 37 = .ok (.lstore 4, 2) := by decide +kernel
theorem dX5_becomesBy_39 : decode cX5_becomesBy 39 = .ok (.iinc 6 1, 3) := by decide +kernel
theorem dX5_becomesBy_42 : decode cX5_becomesBy 42 = .ok (.goto (-34), 3) := by decide +kernel
theorem dX5_becomesBy_45 : decode cX5_becomesBy 45 = .ok (.lload 4, 2) := by decide +kernel
theorem dX5_becomesBy_47 : decode cX5_becomesBy 47 = .ok (.lreturn, 1) := by decide +kernel
theorem dX6_init_0 : decode cX6_init 0 = .ok (.aload_n 0, 1) := by decide +kernel
theorem dX6_init_1 : decode cX6_init 1 = .ok (.invokespecial 3, 3) := by decide +kernel
theorem dX6_init_4 : decode cX6_init 4 = .ok (.aload_n 0, 1) := by decide +kernel
theorem dX6_init_5 : decode cX6_init 5 = .ok (.bipush 8, 2) := by decide +kernel
theorem dX6_init_7 : decode cX6_init 7 = .ok (.putfield 9, 3) := by decide +kernel
theorem dX6_init_10 : decode cX6_init 10 = .ok (.aload_n 0, 1) := by decide +kernel
theorem dX6_init_11 : decode cX6_init 11 = .ok (.ldc2_w 17, 3) := by decide +kernel
theorem dX6_init_14 : decode cX6_init 14 = .ok (.putfield 19, 3) := by decide +kernel
theorem dX6_init_17 : decode cX6_init 17 = .ok (.aload_n 0, 1) := by decide +kernel
theorem dX6_init_18 : decode cX6_init 18 = .ok (.ldc2_w 17, 3) := by decide +kernel
theorem dX6_init_21 : decode cX6_init 21 = .ok (.putfield 23, 3) := by decide +kernel
theorem dX6_init_24 : decode cX6_init 24 = .ok (.aload_n 0, 1) := by decide +kernel
theorem dX6_init_25 : decode cX6_init 25 = .ok (.iconst 0, 1) := by decide +kernel
theorem dX6_init_26 : decode cX6_init 26 = .ok (.putfield 26, 3) := by decide +kernel
theorem dX6_init_29 : decode cX6_init 29 = .ok (.aload_n 0, 1) := by decide +kernel
theorem dX6_init_30 : decode cX6_init 30 = .ok (.bipush 6, 2) := by decide +kernel
theorem dX6_init_32 : decode cX6_init 32 = .ok (.newarray .long, 2) := by decide +kernel
theorem dX6_init_34 : decode cX6_init 34 = .ok (.putfield 29, 3) := by decide +kernel
theorem dX6_init_37 : decode cX6_init 37 = .ok (.return_, 1) := by decide +kernel
theorem dX6_layInOrder_0 : decode cX6_layInOrder 0 = .ok (.aload_n 0, 1) := by decide +kernel
theorem dX6_layInOrder_1 : decode cX6_layInOrder 1 = .ok (.iload_n 1, 1) := by decide +kernel
theorem dX6_layInOrder_2 : decode cX6_layInOrder 2 = .ok (.putfield 9, 3) := by decide +kernel
theorem dX6_layInOrder_5 : decode cX6_layInOrder 5 = .ok (.aload_n 0, 1) := by decide +kernel
theorem dX6_layInOrder_6 : decode cX6_layInOrder 6 = .ok (.ldc2_w 17, 3) := by decide +kernel
theorem dX6_layInOrder_9 : decode cX6_layInOrder 9 = .ok (.putfield 19, 3) := by decide +kernel
theorem dX6_layInOrder_12 : decode cX6_layInOrder 12 = .ok (.aload_n 0, 1) := by decide +kernel
theorem dX6_layInOrder_13 : decode cX6_layInOrder 13 = .ok (.ldc2_w 17, 3) := by decide +kernel
theorem dX6_layInOrder_16 : decode cX6_layInOrder 16 = .ok (.putfield 23, 3) := by decide +kernel
theorem dX6_layInOrder_19 : decode cX6_layInOrder 19 = .ok (.aload_n 0, 1) := by decide +kernel
theorem dX6_layInOrder_20 : decode cX6_layInOrder 20 = .ok (.iconst 0, 1) := by decide +kernel
theorem dX6_layInOrder_21 : decode cX6_layInOrder 21 = .ok (.putfield 26, 3) := by decide +kernel
theorem dX6_layInOrder_24 : decode cX6_layInOrder 24 = .ok (.return_, 1) := by decide +kernel
theorem dX6_copyFrom_0 : decode cX6_copyFrom 0 = .ok (.aload_n 0, 1) := by decide +kernel
theorem dX6_copyFrom_1 : decode cX6_copyFrom 1 = .ok (.aload_n 1, 1) := by decide +kernel
theorem dX6_copyFrom_2 : decode cX6_copyFrom 2 = .ok (.getfield 9, 3) := by decide +kernel
theorem dX6_copyFrom_5 : decode cX6_copyFrom 5 = .ok (.putfield 9, 3) := by decide +kernel
theorem dX6_copyFrom_8 : decode cX6_copyFrom 8 = .ok (.aload_n 0, 1) := by decide +kernel
theorem dX6_copyFrom_9 : decode cX6_copyFrom 9 = .ok (.aload_n 1, 1) := by decide +kernel
theorem dX6_copyFrom_10 : decode cX6_copyFrom 10 = .ok (.getfield 19, 3) := by decide +kernel
theorem dX6_copyFrom_13 : decode cX6_copyFrom 13 = .ok (.putfield 19, 3) := by decide +kernel
theorem dX6_copyFrom_16 : decode cX6_copyFrom 16 = .ok (.aload_n 0, 1) := by decide +kernel
theorem dX6_copyFrom_17 : decode cX6_copyFrom 17 = .ok (.aload_n 1, 1) := by decide +kernel
theorem dX6_copyFrom_18 : decode cX6_copyFrom 18 = .ok (.getfield 23, 3) := by decide +kernel
theorem dX6_copyFrom_21 : decode cX6_copyFrom 21 = .ok (.putfield 23, 3) := by decide +kernel
theorem dX6_copyFrom_24 : decode cX6_copyFrom 24 = .ok (.aload_n 0, 1) := by decide +kernel
theorem dX6_copyFrom_25 : decode cX6_copyFrom 25 = .ok (.aload_n 1, 1) := by decide +kernel
theorem dX6_copyFrom_26 : decode cX6_copyFrom 26 = .ok (.getfield 26, 3) := by decide +kernel
theorem dX6_copyFrom_29 : decode cX6_copyFrom 29 = .ok (.putfield 26, 3) := by decide +kernel
theorem dX6_copyFrom_32 : decode cX6_copyFrom 32 = .ok (.iconst 0, 1) := by decide +kernel
theorem dX6_copyFrom_33 : decode cX6_copyFrom 33 = .ok (.istore_n 2, 1) := by decide +kernel
theorem dX6_copyFrom_34 : decode cX6_copyFrom 34 = .ok (.iload_n 2, 1) := by decide +kernel
theorem dX6_copyFrom_35 : decode cX6_copyFrom 35 = .ok (.aload_n 0, 1) := by decide +kernel
theorem dX6_copyFrom_36 : decode cX6_copyFrom 36 = .ok (.getfield 29, 3) := by decide +kernel
theorem dX6_copyFrom_39 : decode cX6_copyFrom 39 = .ok (.arraylength, 1) := by decide +kernel
theorem dX6_copyFrom_40 : decode cX6_copyFrom 40 = .ok (.if_icmp .ge 30, 3) := by decide +kernel
theorem dX6_copyFrom_43 : decode cX6_copyFrom 43 = .ok (.iload_n 2, 1) := by decide +kernel
theorem dX6_copyFrom_44 : decode cX6_copyFrom 44 = .ok (.aload_n 1, 1) := by decide +kernel
theorem dX6_copyFrom_45 : decode cX6_copyFrom 45 = .ok (.getfield 29, 3) := by decide +kernel
theorem dX6_copyFrom_48 : decode cX6_copyFrom 48 = .ok (.arraylength, 1) := by decide +kernel
theorem dX6_copyFrom_49 : decode cX6_copyFrom 49 = .ok (.if_icmp .ge 21, 3) := by decide +kernel
theorem dX6_copyFrom_52 : decode cX6_copyFrom 52 = .ok (.aload_n 0, 1) := by decide +kernel
theorem dX6_copyFrom_53 : decode cX6_copyFrom 53 = .ok (.getfield 29, 3) := by decide +kernel
theorem dX6_copyFrom_56 : decode cX6_copyFrom 56 = .ok (.iload_n 2, 1) := by decide +kernel
theorem dX6_copyFrom_57 : decode cX6_copyFrom 57 = .ok (.aload_n 1, 1) := by decide +kernel
theorem dX6_copyFrom_58 : decode cX6_copyFrom 58 = .ok (.getfield 29, 3) := by decide +kernel
theorem dX6_copyFrom_61 : decode cX6_copyFrom 61 = .ok (.iload_n 2, 1) := by decide +kernel
theorem dX6_copyFrom_62 : decode cX6_copyFrom 62 = .ok (.laload, 1) := by decide +kernel
theorem dX6_copyFrom_63 : decode cX6_copyFrom 63 = .ok (.lastore, 1) := by decide +kernel
theorem dX6_copyFrom_64 : decode cX6_copyFrom 64 = .ok (.iinc 2 1, 3) := by decide +kernel
theorem dX6_copyFrom_67 : decode cX6_copyFrom 67 = .ok (.goto (-33), 3) := by decide +kernel
theorem dX6_copyFrom_70 : decode cX6_copyFrom 70 = .ok (.return_, 1) := by decide +kernel
theorem dX6_hasPlace_0 : decode cX6_hasPlace 0 = .ok (.iload_n 1, 1) := by decide +kernel
theorem dX6_hasPlace_1 : decode cX6_hasPlace 1 = .ok (.ifCond .lt 15, 3) := by decide +kernel
theorem dX6_hasPlace_4 : decode cX6_hasPlace 4 = .ok (.iload_n 1, 1) := by decide +kernel
theorem dX6_hasPlace_5 : decode cX6_hasPlace 5 = .ok (.aload_n 0, 1) := by decide +kernel
theorem dX6_hasPlace_6 : decode cX6_hasPlace 6 = .ok (.getfield 9, 3) := by decide +kernel
theorem dX6_hasPlace_9 : decode cX6_hasPlace 9 = .ok (.if_icmp .ge 7, 3) := by decide +kernel
theorem dX6_hasPlace_12 : decode cX6_hasPlace 12 = .ok (.iconst 1, 1) := by decide +kernel
theorem dX6_hasPlace_13 : decode cX6_hasPlace 13 = .ok (.goto 4, 3) := by decide +kernel
theorem dX6_hasPlace_16 : decode cX6_hasPlace 16 = .ok (.iconst 0, 1) := by decide +kernel
theorem dX6_hasPlace_17 : decode cX6_hasPlace 17 = .ok (.ireturn, 1) := by decide +kernel
theorem dX6_hasMark_0 : decode cX6_hasMark 0 = .ok (.iload_n 1, 1) := by decide +kernel
theorem dX6_hasMark_1 : decode cX6_hasMark 1 = .ok (.ifCond .lt 15, 3) := by decide +kernel
theorem dX6_hasMark_4 : decode cX6_hasMark 4 = .ok (.iload_n 1, 1) := by decide +kernel
theorem dX6_hasMark_5 : decode cX6_hasMark 5 = .ok (.aload_n 0, 1) := by decide +kernel
theorem dX6_hasMark_6 : decode cX6_hasMark 6 = .ok (.getfield 26, 3) := by decide +kernel
theorem dX6_hasMark_9 : decode cX6_hasMark 9 = .ok (.if_icmp .ge 7, 3) := by decide +kernel
theorem dX6_hasMark_12 : decode cX6_hasMark 12 = .ok (.iconst 1, 1) := by decide +kernel
theorem dX6_hasMark_13 : decode cX6_hasMark 13 = .ok (.goto 4, 3) := by decide +kernel
theorem dX6_hasMark_16 : decode cX6_hasMark 16 = .ok (.iconst 0, 1) := by decide +kernel
theorem dX6_hasMark_17 : decode cX6_hasMark 17 = .ok (.ireturn, 1) := by decide +kernel
theorem dX6_movesOf_0 : decode cX6_movesOf 0 = .ok (.iload_n 1, 1) := by decide +kernel
theorem dX6_movesOf_1 : decode cX6_movesOf 1 = .ok (.ifCond .lt 21, 3) := by decide +kernel
theorem dX6_movesOf_4 : decode cX6_movesOf 4 = .ok (.iload_n 1, 1) := by decide +kernel
theorem dX6_movesOf_5 : decode cX6_movesOf 5 = .ok (.aload_n 0, 1) := by decide +kernel
theorem dX6_movesOf_6 : decode cX6_movesOf 6 = .ok (.getfield 29, 3) := by decide +kernel
theorem dX6_movesOf_9 : decode cX6_movesOf 9 = .ok (.arraylength, 1) := by decide +kernel
theorem dX6_movesOf_10 : decode cX6_movesOf 10 = .ok (.if_icmp .ge 12, 3) := by decide +kernel
theorem dX6_movesOf_13 : decode cX6_movesOf 13 = .ok (.aload_n 0, 1) := by decide +kernel
theorem dX6_movesOf_14 : decode cX6_movesOf 14 = .ok (.getfield 29, 3) := by decide +kernel
theorem dX6_movesOf_17 : decode cX6_movesOf 17 = .ok (.iload_n 1, 1) := by decide +kernel
theorem dX6_movesOf_18 : decode cX6_movesOf 18 = .ok (.laload, 1) := by decide +kernel
theorem dX6_movesOf_19 : decode cX6_movesOf 19 = .ok (.goto 6, 3) := by decide +kernel
theorem dX6_movesOf_22 : decode cX6_movesOf 22 = .ok (.ldc2_w 17, 3) := by decide +kernel
theorem dX6_movesOf_25 : decode cX6_movesOf 25 = .ok (.lreturn, 1) := by decide +kernel
theorem dX6_addMark_0 : decode cX6_addMark 0 = .ok (.aload_n 0, 1) := by decide +kernel
theorem dX6_addMark_1 : decode cX6_addMark 1 = .ok (.getfield 26, 3) := by decide +kernel
theorem dX6_addMark_4 : decode cX6_addMark 4 = .ok (.istore_n 3, 1) := by decide +kernel
theorem dX6_addMark_5 : decode cX6_addMark 5 = .ok (.iload_n 3, 1) := by decide +kernel
theorem dX6_addMark_6 : decode cX6_addMark 6 = .ok (.ifCond .lt 29, 3) := by decide +kernel
theorem dX6_addMark_9 : decode cX6_addMark 9 = .ok (.iload_n 3, 1) := by decide +kernel
theorem dX6_addMark_10 : decode cX6_addMark 10 = .ok (.aload_n 0, 1) := by decide +kernel
theorem dX6_addMark_11 : decode cX6_addMark 11 = .ok (.getfield 29, 3) := by decide +kernel
theorem dX6_addMark_14 : decode cX6_addMark 14 = .ok (.arraylength, 1) := by decide +kernel
theorem dX6_addMark_15 : decode cX6_addMark 15 = .ok (.if_icmp .ge 20, 3) := by decide +kernel
theorem dX6_addMark_18 : decode cX6_addMark 18 = .ok (.aload_n 0, 1) := by decide +kernel
theorem dX6_addMark_19 : decode cX6_addMark 19 = .ok (.getfield 29, 3) := by decide +kernel
theorem dX6_addMark_22 : decode cX6_addMark 22 = .ok (.iload_n 3, 1) := by decide +kernel
theorem dX6_addMark_23 : decode cX6_addMark 23 = .ok (.lload_n 1, 1) := by decide +kernel
theorem dX6_addMark_24 : decode cX6_addMark 24 = .ok (.lastore, 1) := by decide +kernel
theorem dX6_addMark_25 : decode cX6_addMark 25 = .ok (.aload_n 0, 1) := by decide +kernel
theorem dX6_addMark_26 : decode cX6_addMark 26 = .ok (.dup, 1) := by decide +kernel
theorem dX6_addMark_27 : decode cX6_addMark 27 = .ok (.getfield 26, 3) := by decide +kernel
theorem dX6_addMark_30 : decode cX6_addMark 30 = .ok (.iconst 1, 1) := by decide +kernel
theorem dX6_addMark_31 : decode cX6_addMark 31 = .ok (.iadd, 1) := by decide +kernel
theorem dX6_addMark_32 : decode cX6_addMark 32 = .ok (.putfield 26, 3) := by decide +kernel
theorem dX6_addMark_35 : decode cX6_addMark 35 = .ok (.iload_n 3, 1) := by decide +kernel
theorem dX6_addMark_36 : decode cX6_addMark 36 = .ok (.ireturn, 1) := by decide +kernel
theorem dX6_removeMark_0 : decode cX6_removeMark 0 = .ok (.iload_n 1, 1) := by decide +kernel
theorem dX6_removeMark_1 : decode cX6_removeMark 1 = .ok (.istore_n 2, 1) := by decide +kernel
theorem dX6_removeMark_2 : decode cX6_removeMark 2 = .ok (.iload_n 2, 1) := by decide +kernel
theorem dX6_removeMark_3 : decode cX6_removeMark 3 = .ok (.ifCond .lt 34, 3) := by decide +kernel
theorem dX6_removeMark_6 : decode cX6_removeMark 6 = .ok (.iload_n 2, 1) := by decide +kernel
theorem dX6_removeMark_7 : decode cX6_removeMark 7 = .ok (.iconst 1, 1) := by decide +kernel
theorem dX6_removeMark_8 : decode cX6_removeMark 8 = .ok (.iadd, 1) := by decide +kernel
theorem dX6_removeMark_9 : decode cX6_removeMark 9 = .ok (.aload_n 0, 1) := by decide +kernel
theorem dX6_removeMark_10 : decode cX6_removeMark 10 = .ok (.getfield 29, 3) := by decide +kernel
theorem dX6_removeMark_13 : decode cX6_removeMark 13 = .ok (.arraylength, 1) := by decide +kernel
theorem dX6_removeMark_14 : decode cX6_removeMark 14 = .ok (.if_icmp .ge 23, 3) := by decide +kernel
theorem dX6_removeMark_17 : decode cX6_removeMark 17 = .ok (.aload_n 0, 1) := by decide +kernel
theorem dX6_removeMark_18 : decode cX6_removeMark 18 = .ok (.getfield 29, 3) := by decide +kernel
theorem dX6_removeMark_21 : decode cX6_removeMark 21 = .ok (.iload_n 2, 1) := by decide +kernel
theorem dX6_removeMark_22 : decode cX6_removeMark 22 = .ok (.aload_n 0, 1) := by decide +kernel
theorem dX6_removeMark_23 : decode cX6_removeMark 23 = .ok (.getfield 29, 3) := by decide +kernel
theorem dX6_removeMark_26 : decode cX6_removeMark 26 = .ok (.iload_n 2, 1) := by decide +kernel
theorem dX6_removeMark_27 : decode cX6_removeMark 27 = .ok (.iconst 1, 1) := by decide +kernel
theorem dX6_removeMark_28 : decode cX6_removeMark 28 = .ok (.iadd, 1) := by decide +kernel
theorem dX6_removeMark_29 : decode cX6_removeMark 29 = .ok (.laload, 1) := by decide +kernel
theorem dX6_removeMark_30 : decode cX6_removeMark 30 = .ok (.lastore, 1) := by decide +kernel
theorem dX6_removeMark_31 : decode cX6_removeMark 31 = .ok (.iinc 2 1, 3) := by decide +kernel
theorem dX6_removeMark_34 : decode cX6_removeMark 34 = .ok (.goto (-32), 3) := by decide +kernel
theorem dX6_removeMark_37 : decode cX6_removeMark 37 = .ok (.aload_n 0, 1) := by decide +kernel
theorem dX6_removeMark_38 : decode cX6_removeMark 38 = .ok (.dup, 1) := by decide +kernel
theorem dX6_removeMark_39 : decode cX6_removeMark 39 = .ok (.getfield 26, 3) := by decide +kernel
theorem dX6_removeMark_42 : decode cX6_removeMark 42 = .ok (.iconst 1, 1) := by decide +kernel
theorem dX6_removeMark_43 : decode cX6_removeMark 43 = .ok (.isub, 1) := by decide +kernel
theorem dX6_removeMark_44 : decode cX6_removeMark 44 = .ok (.putfield 26, 3) := by decide +kernel
theorem dX6_removeMark_47 : decode cX6_removeMark 47 = .ok (.return_, 1) := by decide +kernel
theorem dX6_lowestMark_0 : decode cX6_lowestMark 0 = .ok (.iconst 0, 1) := by decide +kernel
theorem dX6_lowestMark_1 : decode cX6_lowestMark 1 = .ok (.istore_n 3, 1) := by decide +kernel
theorem dX6_lowestMark_2 : decode cX6_lowestMark 2 = .ok (.iload_n 3, 1) := by decide +kernel
theorem dX6_lowestMark_3 : decode cX6_lowestMark 3 = .ok (.aload_n 0, 1) := by decide +kernel
theorem dX6_lowestMark_4 : decode cX6_lowestMark 4 = .ok (.getfield 26, 3) := by decide +kernel
theorem dX6_lowestMark_7 : decode cX6_lowestMark 7 = .ok (.if_icmp .ge 31, 3) := by decide +kernel
theorem dX6_lowestMark_10 : decode cX6_lowestMark 10 = .ok (.iload_n 3, 1) := by decide +kernel
theorem dX6_lowestMark_11 : decode cX6_lowestMark 11 = .ok (.aload_n 0, 1) := by decide +kernel
theorem dX6_lowestMark_12 : decode cX6_lowestMark 12 = .ok (.getfield 29, 3) := by decide +kernel
theorem dX6_lowestMark_15 : decode cX6_lowestMark 15 = .ok (.arraylength, 1) := by decide +kernel
theorem dX6_lowestMark_16 : decode cX6_lowestMark 16 = .ok (.if_icmp .ge 22, 3) := by decide +kernel
theorem dX6_lowestMark_19 : decode cX6_lowestMark 19 = .ok (.aload_n 0, 1) := by decide +kernel
theorem dX6_lowestMark_20 : decode cX6_lowestMark 20 = .ok (.getfield 29, 3) := by decide +kernel
theorem dX6_lowestMark_23 : decode cX6_lowestMark 23 = .ok (.iload_n 3, 1) := by decide +kernel
theorem dX6_lowestMark_24 : decode cX6_lowestMark 24 = .ok (.laload, 1) := by decide +kernel
theorem dX6_lowestMark_25 : decode cX6_lowestMark 25 = .ok (.lload_n 1, 1) := by decide +kernel
theorem dX6_lowestMark_26 : decode cX6_lowestMark 26 = .ok (.lcmp, 1) := by decide +kernel
theorem dX6_lowestMark_27 : decode cX6_lowestMark 27 = .ok (.ifCond .ne 5, 3) := by decide +kernel
theorem dX6_lowestMark_30 : decode cX6_lowestMark 30 = .ok (.iload_n 3, 1) := by decide +kernel
theorem dX6_lowestMark_31 : decode cX6_lowestMark 31 = .ok (.ireturn, 1) := by decide +kernel
theorem dX6_lowestMark_32 : decode cX6_lowestMark 32 = .ok (.iinc 3 1, 3) := by decide +kernel
theorem dX6_lowestMark_35 : decode cX6_lowestMark 35 = .ok (.goto (-33), 3) := by decide +kernel
theorem dX6_lowestMark_38 : decode cX6_lowestMark 38 = .ok (.bipush (-6), 2) := by decide +kernel
theorem dX6_lowestMark_40 : decode cX6_lowestMark 40 = .ok (.ireturn, 1) := by decide +kernel
