theorem dX7_init_0 : decode cX7_init 0 = .ok (.aload_n 0, 1) := by decide +kernel
theorem dX7_init_1 : decode cX7_init 1 = .ok (.invokespecial 1, 3) := by decide +kernel
theorem dX7_init_4 : decode cX7_init 4 = .ok (.aload_n 0, 1) := by decide +kernel
theorem dX7_init_5 : decode cX7_init 5 = .ok (.new 7, 3) := by decide +kernel
theorem dX7_init_8 : decode cX7_init 8 = .ok (.dup, 1) := by decide +kernel
theorem dX7_init_9 : decode cX7_init 9 = .ok (.invokespecial 9, 3) := by decide +kernel
theorem dX7_init_12 : decode cX7_init 12 = .ok (.putfield 10, 3) := by decide +kernel
theorem dX7_init_15 : decode cX7_init 15 = .ok (.aload_n 0, 1) := by decide +kernel
theorem dX7_init_16 : decode cX7_init 16 = .ok (.new 16, 3) := by decide +kernel
theorem dX7_init_19 : decode cX7_init 19 = .ok (.dup, 1) := by decide +kernel
theorem dX7_init_20 : decode cX7_init 20 = .ok (.bipush 6, 2) := by decide +kernel
theorem dX7_init_22 : decode cX7_init 22 = .ok (.invokespecial 18, 3) := by decide +kernel
theorem dX7_init_25 : decode cX7_init 25 = .ok (.putfield 21, 3) := by decide +kernel
theorem dX7_init_28 : decode cX7_init 28 = .ok (.aload_n 0, 1) := by decide +kernel
theorem dX7_init_29 : decode cX7_init 29 = .ok (.new 16, 3) := by decide +kernel
theorem dX7_init_32 : decode cX7_init 32 = .ok (.dup, 1) := by decide +kernel
theorem dX7_init_33 : decode cX7_init 33 = .ok (.iconst 2, 1) := by decide +kernel
theorem dX7_init_34 : decode cX7_init 34 = .ok (.invokespecial 18, 3) := by decide +kernel
theorem dX7_init_37 : decode cX7_init 37 = .ok (.putfield 25, 3) := by decide +kernel
theorem dX7_init_40 : decode cX7_init 40 = .ok (.aload_n 0, 1) := by decide +kernel
theorem dX7_init_41 : decode cX7_init 41 = .ok (.new 28, 3) := by decide +kernel
theorem dX7_init_44 : decode cX7_init 44 = .ok (.dup, 1) := by decide +kernel
theorem dX7_init_45 : decode cX7_init 45 = .ok (.invokespecial 30, 3) := by decide +kernel
theorem dX7_init_48 : decode cX7_init 48 = .ok (.putfield 31, 3) := by decide +kernel
theorem dX7_init_51 : decode cX7_init 51 = .ok (.aload_n 0, 1) := by decide +kernel
theorem dX7_init_52 : decode cX7_init 52 = .ok (.new 35, 3) := by decide +kernel
theorem dX7_init_55 : decode cX7_init 55 = .ok (.dup, 1) := by decide +kernel
theorem dX7_init_56 : decode cX7_init 56 = .ok (.invokespecial 37, 3) := by decide +kernel
theorem dX7_init_59 : decode cX7_init 59 = .ok (.putfield 38, 3) := by decide +kernel
theorem dX7_init_62 : decode cX7_init 62 = .ok (.aload_n 0, 1) := by decide +kernel
theorem dX7_init_63 : decode cX7_init 63 = .ok (.bipush 80, 2) := by decide +kernel
theorem dX7_init_65 : decode cX7_init 65 = .ok (.newarray .char, 2) := by decide +kernel
theorem dX7_init_67 : decode cX7_init 67 = .ok (.putfield 42, 3) := by decide +kernel
theorem dX7_init_70 : decode cX7_init 70 = .ok (.aload_n 0, 1) := by decide +kernel
theorem dX7_init_71 : decode cX7_init 71 = .ok (.iconst 0, 1) := by decide +kernel
theorem dX7_init_72 : decode cX7_init 72 = .ok (.putfield 46, 3) := by decide +kernel
theorem dX7_init_75 : decode cX7_init 75 = .ok (.aload_n 0, 1) := by decide +kernel
theorem dX7_init_76 : decode cX7_init 76 = .ok (.iconst 0, 1) := by decide +kernel
theorem dX7_init_77 : decode cX7_init 77 = .ok (.putfield 50, 3) := by decide +kernel
theorem dX7_init_80 : decode cX7_init 80 = .ok (.aload_n 0, 1) := by decide +kernel
theorem dX7_init_81 : decode cX7_init 81 = .ok (.iconst 0, 1) := by decide +kernel
theorem dX7_init_82 : decode cX7_init 82 = .ok (.putfield 53, 3) := by decide +kernel
theorem dX7_init_85 : decode cX7_init 85 = .ok (.return_, 1) := by decide +kernel
theorem dX7_set_0 : decode cX7_set 0 = .ok (.iload_n 1, 1) := by decide +kernel
theorem dX7_set_1 : decode cX7_set 1 = .ok (.iconst 2, 1) := by decide +kernel
theorem dX7_set_2 : decode cX7_set 2 = .ok (.if_icmp .lt 9, 3) := by decide +kernel
theorem dX7_set_5 : decode cX7_set 5 = .ok (.iload_n 1, 1) := by decide +kernel
theorem dX7_set_6 : decode cX7_set 6 = .ok (.bipush 16, 2) := by decide +kernel
theorem dX7_set_8 : decode cX7_set 8 = .ok (.if_icmp .le 6, 3) := by decide +kernel
theorem dX7_set_11 : decode cX7_set 11 = .ok (.bipush (-2), 2) := by decide +kernel
theorem dX7_set_13 : decode cX7_set 13 = .ok (.ireturn, 1) := by decide +kernel
theorem dX7_set_14 : decode cX7_set 14 = .ok (.aload_n 0, 1) := by decide +kernel
theorem dX7_set_15 : decode cX7_set 15 = .ok (.getfield 10, 3) := by decide +kernel
theorem dX7_set_18 : decode cX7_set 18 = .ok (.getfield 56, 3) := by decide +kernel
theorem dX7_set_21 : decode cX7_set 21 = .ok (.istore_n 2, 1) := by decide +kernel
theorem dX7_set_22 : decode cX7_set 22 = .ok (.aload_n 0, 1) := by decide +kernel
theorem dX7_set_23 : decode cX7_set 23 = .ok (.invokevirtual 59, 3) := by decide +kernel
theorem dX7_set_26 : decode cX7_set 26 = .ok (.aload_n 0, 1) := by decide +kernel
theorem dX7_set_27 : decode cX7_set 27 = .ok (.getfield 10, 3) := by decide +kernel
theorem dX7_set_30 : decode cX7_set 30 = .ok (.iload_n 1, 1) := by decide +kernel
theorem dX7_set_31 : decode cX7_set 31 = .ok (.invokevirtual 62, 3) := by decide +kernel
theorem dX7_set_34 : decode cX7_set 34 = .ok (.iload_n 2, 1) := by decide +kernel
theorem dX7_set_35 : decode cX7_set 35 = .ok (.ireturn, 1) := by decide +kernel
theorem dX7_product_0 : decode cX7_product 0 = .ok (.aload_n 0, 1) := by decide +kernel
theorem dX7_product_1 : decode cX7_product 1 = .ok (.getfield 10, 3) := by decide +kernel
theorem dX7_product_4 : decode cX7_product 4 = .ok (.iload_n 1, 1) := by decide +kernel
theorem dX7_product_5 : decode cX7_product 5 = .ok (.invokevirtual 77, 3) := by decide +kernel
theorem dX7_product_8 : decode cX7_product 8 = .ok (.ifCond .eq 14, 3) := by decide +kernel
theorem dX7_product_11 : decode cX7_product 11 = .ok (.aload_n 0, 1) := by decide +kernel
theorem dX7_product_12 : decode cX7_product 12 = .ok (.getfield 10, 3) := by decide +kernel
theorem dX7_product_15 : decode cX7_product 15 = .ok (.iload_n 2, 1) := by decide +kernel
theorem dX7_product_16 : decode cX7_product 16 = .ok (.invokevirtual 77, 3) := by decide +kernel
theorem dX7_product_19 : decode cX7_product 19 = .ok (.ifCond .ne 5, 3) := by decide +kernel
theorem dX7_product_22 : decode cX7_product 22 = .ok (.iconst (-1), 1) := by decide +kernel
theorem dX7_product_23 : decode cX7_product 23 = .ok (.ireturn, 1) := by decide +kernel
theorem dX7_product_24 : decode cX7_product 24 = .ok (.aload_n 0, 1) := by decide +kernel
theorem dX7_product_25 : decode cX7_product 25 = .ok (.aload_n 0, 1) := by decide +kernel
theorem dX7_product_26 : decode cX7_product 26 = .ok (.getfield 10, 3) := by decide +kernel
theorem dX7_product_29 : decode cX7_product 29 = .ok (.iload_n 1, 1) := by decide +kernel
theorem dX7_product_30 : decode cX7_product 30 = .ok (.invokevirtual 81, 3) := by decide +kernel
theorem dX7_product_33 : decode cX7_product 33 = .ok (.aload_n 0, 1) := by decide +kernel
theorem dX7_product_34 : decode cX7_product 34 = .ok (.getfield 10, 3) := by decide +kernel
theorem dX7_product_37 : decode cX7_product 37 = .ok (.iload_n 2, 1) := by decide +kernel
theorem dX7_product_38 : decode cX7_product 38 = .ok (.invokevirtual 81, 3) := by decide +kernel
theorem dX7_product_41 : decode cX7_product 41 = .ok (.invokestatic 85, 3) := by decide +kernel
theorem dX7_product_44 : decode cX7_product 44 = .ok (.invokevirtual 73, 3) := by decide +kernel
theorem dX7_product_47 : decode cX7_product 47 = .ok (.ireturn, 1) := by decide +kernel
theorem dX7_power_0 : decode cX7_power 0 = .ok (.aload_n 0, 1) := by decide +kernel
theorem dX7_power_1 : decode cX7_power 1 = .ok (.getfield 10, 3) := by decide +kernel
theorem dX7_power_4 : decode cX7_power 4 = .ok (.iload_n 1, 1) := by decide +kernel
theorem dX7_power_5 : decode cX7_power 5 = .ok (.invokevirtual 77, 3) := by decide +kernel
theorem dX7_power_8 : decode cX7_power 8 = .ok (.ifCond .ne 5, 3) := by decide +kernel
theorem dX7_power_11 : decode cX7_power 11 = .ok (.iconst (-1), 1) := by decide +kernel
theorem dX7_power_12 : decode cX7_power 12 = .ok (.ireturn, 1) := by decide +kernel
theorem dX7_power_13 : decode cX7_power 13 = .ok (.iload_n 2, 1) := by decide +kernel
theorem dX7_power_14 : decode cX7_power 14 = .ok (.invokestatic 91, 3) := by decide +kernel
theorem dX7_power_17 : decode cX7_power 17 = .ok (.ifCond .ne 6, 3) := by decide +kernel
theorem dX7_power_20 : decode cX7_power 20 = .ok (.bipush (-2), 2) := by decide +kernel
theorem dX7_power_22 : decode cX7_power 22 = .ok (.ireturn, 1) := by decide +kernel
theorem dX7_power_23 : decode cX7_power 23 = .ok (.aload_n 0, 1) := by decide +kernel
theorem dX7_power_24 : decode cX7_power 24 = .ok (.aload_n 0, 1) := by decide +kernel
theorem dX7_power_25 : decode cX7_power 25 = .ok (.getfield 10, 3) := by decide +kernel
theorem dX7_power_28 : decode cX7_power 28 = .ok (.iload_n 1, 1) := by decide +kernel
theorem dX7_power_29 : decode cX7_power 29 = .ok (.invokevirtual 81, 3) := by decide +kernel
theorem dX7_power_32 : decode cX7_power 32 = .ok (.iload_n 2, 1) := by decide +kernel
theorem dX7_power_33 : decode cX7_power 33 = .ok (.invokestatic 94, 3) := by decide +kernel
theorem dX7_power_36 : decode cX7_power 36 = .ok (.invokevirtual 73, 3) := by decide +kernel
theorem dX7_power_39 : decode cX7_power 39 = .ok (.ireturn, 1) := by decide +kernel
theorem dX7_trick_0 : decode cX7_trick 0 = .ok (.aload_n 0, 1) := by decide +kernel
theorem dX7_trick_1 : decode cX7_trick 1 = .ok (.aload_n 0, 1) := by decide +kernel
theorem dX7_trick_2 : decode cX7_trick 2 = .ok (.getfield 10, 3) := by decide +kernel
theorem dX7_trick_5 : decode cX7_trick 5 = .ok (.getfield 98, 3) := by decide +kernel
theorem dX7_trick_8 : decode cX7_trick 8 = .ok (.invokevirtual 73, 3) := by decide +kernel
theorem dX7_trick_11 : decode cX7_trick 11 = .ok (.ireturn, 1) := by decide +kernel
theorem dX7_drop_0 : decode cX7_drop 0 = .ok (.aload_n 0, 1) := by decide +kernel
theorem dX7_drop_1 : decode cX7_drop 1 = .ok (.getfield 10, 3) := by decide +kernel
theorem dX7_drop_4 : decode cX7_drop 4 = .ok (.iload_n 1, 1) := by decide +kernel
theorem dX7_drop_5 : decode cX7_drop 5 = .ok (.invokevirtual 77, 3) := by decide +kernel
theorem dX7_drop_8 : decode cX7_drop 8 = .ok (.ifCond .ne 5, 3) := by decide +kernel
theorem dX7_drop_11 : decode cX7_drop 11 = .ok (.iconst (-1), 1) := by decide +kernel
theorem dX7_drop_12 : decode cX7_drop 12 = .ok (.ireturn, 1) := by decide +kernel
theorem dX7_drop_13 : decode cX7_drop 13 = .ok (.aload_n 0, 1) := by decide +kernel
theorem dX7_drop_14 : decode cX7_drop 14 = .ok (.invokevirtual 59, 3) := by decide +kernel
theorem dX7_drop_17 : decode cX7_drop 17 = .ok (.aload_n 0, 1) := by decide +kernel
theorem dX7_drop_18 : decode cX7_drop 18 = .ok (.getfield 10, 3) := by decide +kernel
theorem dX7_drop_21 : decode cX7_drop 21 = .ok (.iload_n 1, 1) := by decide +kernel
theorem dX7_drop_22 : decode cX7_drop 22 = .ok (.invokevirtual 101, 3) := by decide +kernel
theorem dX7_drop_25 : decode cX7_drop 25 = .ok (.aload_n 0, 1) := by decide +kernel
theorem dX7_drop_26 : decode cX7_drop 26 = .ok (.getfield 10, 3) := by decide +kernel
theorem dX7_drop_29 : decode cX7_drop 29 = .ok (.getfield 104, 3) := by decide +kernel
theorem dX7_drop_32 : decode cX7_drop 32 = .ok (.ireturn, 1) := by decide +kernel
theorem dX7_play_0 : decode cX7_play 0 = .ok (.aload_n 0, 1) := by decide +kernel
theorem dX7_play_1 : decode cX7_play 1 = .ok (.getfield 10, 3) := by decide +kernel
theorem dX7_play_4 : decode cX7_play 4 = .ok (.iload_n 1, 1) := by decide +kernel
theorem dX7_play_5 : decode cX7_play 5 = .ok (.invokevirtual 77, 3) := by decide +kernel
theorem dX7_play_8 : decode cX7_play 8 = .ok (.ifCond .ne 5, 3) := by decide +kernel
theorem dX7_play_11 : decode cX7_play 11 = .ok (.iconst (-1), 1) := by decide +kernel
theorem dX7_play_12 : decode cX7_play 12 = .ok (.ireturn, 1) := by decide +kernel
theorem dX7_play_13 : decode cX7_play 13 = .ok (.aload_n 0, 1) := by decide +kernel
theorem dX7_play_14 : decode cX7_play 14 = .ok (.aload_n 0, 1) := by decide +kernel
theorem dX7_play_15 : decode cX7_play 15 = .ok (.getfield 10, 3) := by decide +kernel
theorem dX7_play_18 : decode cX7_play 18 = .ok (.iload_n 1, 1) := by decide +kernel
theorem dX7_play_19 : decode cX7_play 19 = .ok (.invokevirtual 81, 3) := by decide +kernel
theorem dX7_play_22 : decode cX7_play 22 = .ok (.invokevirtual 107, 3) := by decide +kernel
theorem dX7_play_25 : decode cX7_play 25 = .ok (.ireturn, 1) := by decide +kernel
theorem dX7_cut_0 : decode cX7_cut 0 = .ok (.aload_n 0, 1) := by decide +kernel
theorem dX7_cut_1 : decode cX7_cut 1 = .ok (.getfield 10, 3) := by decide +kernel
theorem dX7_cut_4 : decode cX7_cut 4 = .ok (.iload_n 1, 1) := by decide +kernel
theorem dX7_cut_5 : decode cX7_cut 5 = .ok (.invokevirtual 110, 3) := by decide +kernel
theorem dX7_cut_8 : decode cX7_cut 8 = .ok (.ifCond .ne 6, 3) := by decide +kernel
theorem dX7_cut_11 : decode cX7_cut 11 = .ok (.bipush (-2), 2) := by decide +kernel
theorem dX7_cut_13 : decode cX7_cut 13 = .ok (.ireturn, 1) := by decide +kernel
theorem dX7_cut_14 : decode cX7_cut 14 = .ok (.aload_n 0, 1) := by decide +kernel
theorem dX7_cut_15 : decode cX7_cut 15 = .ok (.iload_n 1, 1) := by decide +kernel
theorem dX7_cut_16 : decode cX7_cut 16 = .ok (.aload_n 0, 1) := by decide +kernel
theorem dX7_cut_17 : decode cX7_cut 17 = .ok (.getfield 10, 3) := by decide +kernel
theorem dX7_cut_20 : decode cX7_cut 20 = .ok (.getfield 56, 3) := by decide +kernel
theorem dX7_cut_23 : decode cX7_cut 23 = .ok (.invokestatic 113, 3) := by decide +kernel
theorem dX7_cut_26 : decode cX7_cut 26 = .ok (.invokevirtual 107, 3) := by decide +kernel
theorem dX7_cut_29 : decode cX7_cut 29 = .ok (.ireturn, 1) := by decide +kernel
theorem dX7_riffle_0 : decode cX7_riffle 0 = .ok (.iload_n 1, 1) := by decide +kernel
theorem dX7_riffle_1 : decode cX7_riffle 1 = .ok (.ifCond .eq 11, 3) := by decide +kernel
theorem dX7_riffle_4 : decode cX7_riffle 4 = .ok (.iload_n 1, 1) := by decide +kernel
theorem dX7_riffle_5 : decode cX7_riffle 5 = .ok (.iconst 1, 1) := by decide +kernel
theorem dX7_riffle_6 : decode cX7_riffle 6 = .ok (.if_icmp .eq 6, 3) := by decide +kernel
theorem dX7_riffle_9 : decode cX7_riffle 9 = .ok (.bipush (-2), 2) := by decide +kernel
theorem dX7_riffle_11 : decode cX7_riffle 11 = .ok (.ireturn, 1) := by decide +kernel
theorem dX7_riffle_12 : decode cX7_riffle 12 = .ok (.aload_n 0, 1) := by decide +kernel
theorem dX7_riffle_13 : decode cX7_riffle 13 = .ok (.iload_n 1, 1) := by decide +kernel
theorem dX7_riffle_14 : decode cX7_riffle 14 = .ok (.iconst 1, 1) := by decide +kernel
theorem dX7_riffle_15 : decode cX7_riffle 15 = .ok (.if_icmp .ne 7, 3) := by decide +kernel
theorem dX7_riffle_18 : decode cX7_riffle 18 = .ok (.iconst 2, 1) := by decide +kernel
theorem dX7_riffle_19 : decode cX7_riffle 19 = .ok (.goto 4, 3) := by decide +kernel
theorem dX7_riffle_22 : decode cX7_riffle 22 = .ok (.iconst 1, 1) := by decide +kernel
theorem dX7_riffle_23 : decode cX7_riffle 23 = .ok (.aload_n 0, 1) := by decide +kernel
theorem dX7_riffle_24 : decode cX7_riffle 24 = .ok (.getfield 10, 3) := by decide +kernel
theorem dX7_riffle_27 : decode cX7_riffle 27 = .ok (.getfield 56, 3) := by decide +kernel
theorem dX7_riffle_30 : decode cX7_riffle 30 = .ok (.invokestatic 119, 3) := by decide +kernel
theorem dX7_riffle_33 : decode cX7_riffle 33 = .ok (.invokevirtual 107, 3) := by decide +kernel
theorem dX7_riffle_36 : decode cX7_riffle 36 = .ok (.ireturn, 1) := by decide +kernel
theorem dX7_turn_0 : decode cX7_turn 0 = .ok (.aload_n 0, 1) := by decide +kernel
theorem dX7_turn_1 : decode cX7_turn 1 = .ok (.iconst 3, 1) := by decide +kernel
theorem dX7_turn_2 : decode cX7_turn 2 = .ok (.aload_n 0, 1) := by decide +kernel
theorem dX7_turn_3 : decode cX7_turn 3 = .ok (.getfield 10, 3) := by decide +kernel
theorem dX7_turn_6 : decode cX7_turn 6 = .ok (.getfield 56, 3) := by decide +kernel
theorem dX7_turn_9 : decode cX7_turn 9 = .ok (.invokestatic 119, 3) := by decide +kernel
theorem dX7_turn_12 : decode cX7_turn 12 = .ok (.invokevirtual 107, 3) := by decide +kernel
theorem dX7_turn_15 : decode cX7_turn 15 = .ok (.ireturn, 1) := by decide +kernel
theorem dX7_restart_0 : decode cX7_restart 0 = .ok (.aload_n 0, 1) := by decide +kernel
theorem dX7_restart_1 : decode cX7_restart 1 = .ok (.invokevirtual 122, 3) := by decide +kernel
theorem dX7_restart_4 : decode cX7_restart 4 = .ok (.istore_n 1, 1) := by decide +kernel
theorem dX7_restart_5 : decode cX7_restart 5 = .ok (.aload_n 0, 1) := by decide +kernel
theorem dX7_restart_6 : decode cX7_restart 6 = .ok (.invokevirtual 59, 3) := by decide +kernel
theorem dX7_restart_9 : decode cX7_restart 9 = .ok (.aload_n 0, 1) := by decide +kernel
theorem dX7_restart_10 : decode cX7_restart 10 = .ok (.getfield 10, 3) := by decide +kernel
theorem dX7_restart_13 : decode cX7_restart 13 = .ok (.ldc2_w 125, 3) := by decide +kernel
theorem dX7_restart_16 : decode cX7_restart 16 = .ok (.putfield 98, 3) := by decide +kernel
theorem dX7_restart_19 : decode cX7_restart 19 = .ok (.iload_n 1, 1) := by decide +kernel
theorem dX7_restart_20 : decode cX7_restart 20 = .ok (.ireturn, 1) := by decide +kernel
theorem dX7_at_0 : decode cX7_at 0 = .ok (.aload_n 0, 1) := by decide +kernel
theorem dX7_at_1 : decode cX7_at 1 = .ok (.getfield 10, 3) := by decide +kernel
theorem dX7_at_4 : decode cX7_at 4 = .ok (.iload_n 1, 1) := by decide +kernel
theorem dX7_at_5 : decode cX7_at 5 = .ok (.invokevirtual 110, 3) := by decide +kernel
theorem dX7_at_8 : decode cX7_at 8 = .ok (.ifCond .eq 17, 3) := by decide +kernel
theorem dX7_at_11 : decode cX7_at 11 = .ok (.aload_n 0, 1) := by decide +kernel
theorem dX7_at_12 : decode cX7_at 12 = .ok (.getfield 10, 3) := by decide +kernel
theorem dX7_at_15 : decode cX7_at 15 = .ok (.getfield 127, 3) := by decide +kernel
theorem dX7_at_18 : decode cX7_at 18 = .ok (.iload_n 1, 1) := by decide +kernel
theorem dX7_at_19 : decode cX7_at 19 = .ok (.invokestatic 130, 3) := by decide +kernel
theorem dX7_at_22 : decode cX7_at 22 = .ok (.goto 4, 3) := by decide +kernel
theorem dX7_at_25 : decode cX7_at 25 = .ok (.iconst (-1), 1) := by decide +kernel
theorem dX7_at_26 : decode cX7_at 26 = .ok (.ireturn, 1) := by decide +kernel
theorem dX7_where_0 : decode cX7_where 0 = .ok (.aload_n 0, 1) := by decide +kernel
theorem dX7_where_1 : decode cX7_where 1 = .ok (.getfield 10, 3) := by decide +kernel
theorem dX7_where_4 : decode cX7_where 4 = .ok (.iload_n 1, 1) := by decide +kernel
theorem dX7_where_5 : decode cX7_where 5 = .ok (.invokevirtual 110, 3) := by decide +kernel
theorem dX7_where_8 : decode cX7_where 8 = .ok (.ifCond .eq 17, 3) := by decide +kernel
theorem dX7_where_11 : decode cX7_where 11 = .ok (.aload_n 0, 1) := by decide +kernel
theorem dX7_where_12 : decode cX7_where 12 = .ok (.getfield 10, 3) := by decide +kernel
theorem dX7_where_15 : decode cX7_where 15 = .ok (.getfield 127, 3) := by decide +kernel
theorem dX7_where_18 : decode cX7_where 18 = .ok (.iload_n 1, 1) := by decide +kernel
theorem dX7_where_19 : decode cX7_where 19 = .ok (.invokestatic 134, 3) := by decide +kernel
theorem dX7_where_22 : decode cX7_where 22 = .ok (.goto 4, 3) := by decide +kernel
theorem dX7_where_25 : decode cX7_where 25 = .ok (.iconst (-1), 1) := by decide +kernel
theorem dX7_where_26 : decode cX7_where 26 = .ok (.ireturn, 1) := by decide +kernel
theorem dX7_of_0 : decode cX7_of 0 = .ok (.aload_n 0, 1) := by decide +kernel
theorem dX7_of_1 : decode cX7_of 1 = .ok (.iload_n 1, 1) := by decide +kernel
theorem dX7_of_2 : decode cX7_of 2 = .ok (.invokevirtual 137, 3) := by decide +kernel
theorem dX7_of_5 : decode cX7_of 5 = .ok (.ifCond .ne 5, 3) := by decide +kernel
theorem dX7_of_8 : decode cX7_of 8 = .ok (.iconst (-1), 1) := by decide +kernel
theorem dX7_of_9 : decode cX7_of 9 = .ok (.ireturn, 1) := by decide +kernel
theorem dX7_of_10 : decode cX7_of 10 = .ok (.aload_n 0, 1) := by decide +kernel
theorem dX7_of_11 : decode cX7_of 11 = .ok (.iload_n 1, 1) := by decide +kernel
theorem dX7_of_12 : decode cX7_of 12 = .ok (.invokevirtual 140, 3) := by decide +kernel
theorem dX7_of_15 : decode cX7_of 15 = .ok (.lstore_n 3, 1) := by decide +kernel
theorem dX7_of_16 : decode cX7_of 16 = .ok (.aload_n 0, 1) := by decide +kernel
theorem dX7_of_17 : decode cX7_of 17 = .ok (.getfield 31, 3) := by decide +kernel
theorem dX7_of_20 : decode cX7_of 20 = .ok (.lload_n 3, 1) := by decide +kernel
theorem dX7_of_21 : decode cX7_of 21 = .ok (.aload_n 0, 1) := by decide +kernel
theorem dX7_of_22 : decode cX7_of 22 = .ok (.getfield 10, 3) := by decide +kernel
theorem dX7_of_25 : decode cX7_of 25 = .ok (.getfield 56, 3) := by decide +kernel
theorem dX7_of_28 : decode cX7_of 28 = .ok (.invokevirtual 143, 3) := by decide +kernel
theorem dX7_of_31 : decode cX7_of 31 = .ok (.iload_n 2, 1) := by decide +kernel
theorem dX7_of_32 : decode cX7_of 32 = .ok (.tableswitch 124 0 6 #[44, 52, 60, 72, 80, 106, 112], 44) := by decide +kernel
theorem dX7_of_76 : decode cX7_of 76 = .ok (.aload_n 0, 1) := by decide +kernel
theorem dX7_of_77 : decode cX7_of 77 = .ok (.getfield 31, 3) := by decide +kernel
theorem dX7_of_80 : decode cX7_of 80 = .ok (.invokevirtual 147, 3) := by decide +kernel
theorem dX7_of_83 : decode cX7_of 83 = .ok (.ireturn, 1) := by decide +kernel
theorem dX7_of_84 : decode cX7_of 84 = .ok (.aload_n 0, 1) := by decide +kernel
theorem dX7_of_85 : decode cX7_of 85 = .ok (.getfield 31, 3) := by decide +kernel
theorem dX7_of_88 : decode cX7_of 88 = .ok (.invokevirtual 150, 3) := by decide +kernel
theorem dX7_of_91 : decode cX7_of 91 = .ok (.ireturn, 1) := by decide +kernel
theorem dX7_of_92 : decode cX7_of 92 = .ok (.lload_n 3, 1) := by decide +kernel
theorem dX7_of_93 : decode cX7_of 93 = .ok (.aload_n 0, 1) := by decide +kernel
theorem dX7_of_94 : decode cX7_of 94 = .ok (.getfield 10, 3) := by decide +kernel
theorem dX7_of_97 : decode cX7_of 97 = .ok (.getfield 56, 3) := by decide +kernel
theorem dX7_of_100 : decode cX7_of 100 = .ok (.invokestatic 153, 3) := by decide +kernel
theorem dX7_of_103 : decode cX7_of 103 = .ok (.ireturn, 1) := by decide +kernel
theorem dX7_of_104 : decode cX7_of 104 = .ok (.aload_n 0, 1) := by decide +kernel
theorem dX7_of_105 : decode cX7_of 105 = .ok (.getfield 31, 3) := by decide +kernel
theorem dX7_of_108 : decode cX7_of 108 = .ok (.invokevirtual 156, 3) := by decide +kernel
theorem dX7_of_111 : decode cX7_of 111 = .ok (.ireturn, 1) := by decide +kernel
theorem dX7_of_112 : decode cX7_of 112 = .ok (.aload_n 0, 1) := by decide +kernel
theorem dX7_of_113 : decode cX7_of 113 = .ok (.getfield 10, 3) := by decide +kernel
theorem dX7_of_116 : decode cX7_of 116 = .ok (.getfield 56, 3) := by decide +kernel
theorem dX7_of_119 : decode cX7_of 119 = .ok (.aload_n 0, 1) := by decide +kernel
theorem dX7_of_120 : decode cX7_of 120 = .ok (.getfield 31, 3) := by decide +kernel
theorem dX7_of_123 : decode cX7_of 123 = .ok (.invokevirtual 150, 3) := by decide +kernel
theorem dX7_of_126 : decode cX7_of 126 = .ok (.isub, 1) := by decide +kernel
theorem dX7_of_127 : decode cX7_of 127 = .ok (.iconst 2, 1) := by decide +kernel
theorem dX7_of_128 : decode cX7_of 128 = .ok (.irem, 1) := by decide +kernel
theorem dX7_of_129 : decode cX7_of 129 = .ok (.ifCond .ne 7, 3) := by decide +kernel
theorem dX7_of_132 : decode cX7_of 132 = .ok (.iconst 2, 1) := by decide +kernel
theorem dX7_of_133 : decode cX7_of 133 = .ok (.goto 4, 3) := by decide +kernel
theorem dX7_of_136 : decode cX7_of 136 = .ok (.iconst 0, 1) := by decide +kernel
theorem dX7_of_137 : decode cX7_of 137 = .ok (.ireturn, 1) := by decide +kernel
theorem dX7_of_138 : decode cX7_of 138 = .ok (.aload_n 0, 1) := by decide +kernel
theorem dX7_of_139 : decode cX7_of 139 = .ok (.lload_n 3, 1) := by decide +kernel
theorem dX7_of_140 : decode cX7_of 140 = .ok (.invokevirtual 159, 3) := by decide +kernel
theorem dX7_of_143 : decode cX7_of 143 = .ok (.ireturn, 1) := by decide +kernel
theorem dX7_of_144 : decode cX7_of 144 = .ok (.aload_n 0, 1) := by decide +kernel
theorem dX7_of_145 : decode cX7_of 145 = .ok (.getfield 10, 3) := by decide +kernel
theorem dX7_of_148 : decode cX7_of 148 = .ok (.lload_n 3, 1) := by decide +kernel
theorem dX7_of_149 : decode cX7_of 149 = .ok (.invokestatic 162, 3) := by decide +kernel
theorem dX7_of_152 : decode cX7_of 152 = .ok (.invokevirtual 166, 3) := by decide +kernel
theorem dX7_of_155 : decode cX7_of 155 = .ok (.ireturn, 1) := by decide +kernel
theorem dX7_of_156 : decode cX7_of 156 = .ok (.bipush (-2), 2) := by decide +kernel
theorem dX7_of_158 : decode cX7_of 158 = .ok (.ireturn, 1) := by decide +kernel
theorem dX7_image_0 : decode cX7_image 0 = .ok (.aload_n 0, 1) := by decide +kernel
theorem dX7_image_1 : decode cX7_image 1 = .ok (.iload_n 1, 1) := by decide +kernel
theorem dX7_image_2 : decode cX7_image 2 = .ok (.invokevirtual 137, 3) := by decide +kernel
theorem dX7_image_5 : decode cX7_image 5 = .ok (.ifCond .eq 14, 3) := by decide +kernel
theorem dX7_image_8 : decode cX7_image 8 = .ok (.aload_n 0, 1) := by decide +kernel
theorem dX7_image_9 : decode cX7_image 9 = .ok (.getfield 10, 3) := by decide +kernel
theorem dX7_image_12 : decode cX7_image 12 = .ok (.iload_n 3, 1) := by decide +kernel
theorem dX7_image_13 : decode cX7_image 13 = .ok (.invokevirtual 110, 3) := by decide +kernel
theorem dX7_image_16 : decode cX7_image 16 = .ok (.ifCond .ne 5, 3) := by decide +kernel
theorem dX7_image_19 : decode cX7_image 19 = .ok (.iconst (-1), 1) := by decide +kernel
theorem dX7_image_20 : decode cX7_image 20 = .ok (.ireturn, 1) := by decide +kernel
theorem dX7_image_21 : decode cX7_image 21 = .ok (.iload_n 2, 1) := by decide +kernel
theorem dX7_image_22 : decode cX7_image 22 = .ok (.invokestatic 91, 3) := by decide +kernel
theorem dX7_image_25 : decode cX7_image 25 = .ok (.ifCond .ne 6, 3) := by decide +kernel
theorem dX7_image_28 : decode cX7_image 28 = .ok (.bipush (-2), 2) := by decide +kernel
theorem dX7_image_30 : decode cX7_image 30 = .ok (.ireturn, 1) := by decide +kernel
theorem dX7_image_31 : decode cX7_image 31 = .ok (.aload_n 0, 1) := by decide +kernel
theorem dX7_image_32 : decode cX7_image 32 = .ok (.iload_n 1, 1) := by decide +kernel
theorem dX7_image_33 : decode cX7_image 33 = .ok (.invokevirtual 140, 3) := by decide +kernel
theorem dX7_image_36 : decode cX7_image 36 = .ok (.iload_n 2, 1) := by decide +kernel
theorem dX7_image_37 : decode cX7_image 37 = .ok (.iload_n 3, 1) := by decide +kernel
theorem dX7_image_38 : decode cX7_image 38 = .ok (.invokestatic 169, 3) := by decide +kernel
theorem dX7_image_41 : decode cX7_image 41 = .ok (.ireturn, 1) := by decide +kernel
theorem dX7_commuting_0 : decode cX7_commuting 0 = .ok (.aload_n 0, 1) := by decide +kernel
theorem dX7_commuting_1 : decode cX7_commuting 1 = .ok (.iload_n 1, 1) := by decide +kernel
theorem dX7_commuting_2 : decode cX7_commuting 2 = .ok (.invokevirtual 137, 3) := by decide +kernel
theorem dX7_commuting_5 : decode cX7_commuting 5 = .ok (.ifCond .ne 7, 3) := by decide +kernel
theorem dX7_commuting_8 : decode cX7_commuting 8 = .ok (.ldc2_w 173, 3) := by decide +kernel
theorem dX7_commuting_11 : decode cX7_commuting 11 = .ok (.lreturn, 1) := by decide +kernel
theorem dX7_commuting_12 : decode cX7_commuting 12 = .ok (.aload_n 0, 1) := by decide +kernel
theorem dX7_commuting_13 : decode cX7_commuting 13 = .ok (.getfield 31, 3) := by decide +kernel
theorem dX7_commuting_16 : decode cX7_commuting 16 = .ok (.aload_n 0, 1) := by decide +kernel
theorem dX7_commuting_17 : decode cX7_commuting 17 = .ok (.iload_n 1, 1) := by decide +kernel
theorem dX7_commuting_18 : decode cX7_commuting 18 = .ok (.invokevirtual 140, 3) := by decide +kernel
theorem dX7_commuting_21 : decode cX7_commuting 21 = .ok (.aload_n 0, 1) := by decide +kernel
theorem dX7_commuting_22 : decode cX7_commuting 22 = .ok (.getfield 10, 3) := by decide +kernel
theorem dX7_commuting_25 : decode cX7_commuting 25 = .ok (.getfield 56, 3) := by decide +kernel
theorem dX7_commuting_28 : decode cX7_commuting 28 = .ok (.invokevirtual 143, 3) := by decide +kernel
theorem dX7_commuting_31 : decode cX7_commuting 31 = .ok (.aload_n 0, 1) := by decide +kernel
theorem dX7_commuting_32 : decode cX7_commuting 32 = .ok (.getfield 31, 3) := by decide +kernel
theorem dX7_commuting_35 : decode cX7_commuting 35 = .ok (.invokevirtual 175, 3) := by decide +kernel
theorem dX7_commuting_38 : decode cX7_commuting 38 = .ok (.lreturn, 1) := by decide +kernel
theorem dX7_commute_0 : decode cX7_commute 0 = .ok (.aload_n 0, 1) := by decide +kernel
theorem dX7_commute_1 : decode cX7_commute 1 = .ok (.iload_n 1, 1) := by decide +kernel
theorem dX7_commute_2 : decode cX7_commute 2 = .ok (.invokevirtual 137, 3) := by decide +kernel
theorem dX7_commute_5 : decode cX7_commute 5 = .ok (.ifCond .eq 11, 3) := by decide +kernel
theorem dX7_commute_8 : decode cX7_commute 8 = .ok (.aload_n 0, 1) := by decide +kernel
theorem dX7_commute_9 : decode cX7_commute 9 = .ok (.iload_n 2, 1) := by decide +kernel
theorem dX7_commute_10 : decode cX7_commute 10 = .ok (.invokevirtual 137, 3) := by decide +kernel
theorem dX7_commute_13 : decode cX7_commute 13 = .ok (.ifCond .ne 5, 3) := by decide +kernel
theorem dX7_commute_16 : decode cX7_commute 16 = .ok (.iconst (-1), 1) := by decide +kernel
theorem dX7_commute_17 : decode cX7_commute 17 = .ok (.ireturn, 1) := by decide +kernel
theorem dX7_commute_18 : decode cX7_commute 18 = .ok (.aload_n 0, 1) := by decide +kernel
theorem dX7_commute_19 : decode cX7_commute 19 = .ok (.iload_n 1, 1) := by decide +kernel
theorem dX7_commute_20 : decode cX7_commute 20 = .ok (.invokevirtual 140, 3) := by decide +kernel
theorem dX7_commute_23 : decode cX7_commute 23 = .ok (.lstore_n 3, 1) := by decide +kernel
theorem dX7_commute_24 : decode cX7_commute 24 = .ok (.aload_n 0, 1) := by decide +kernel
theorem dX7_commute_25 : decode cX7_commute 25 = .ok (.iload_n 2, 1) := by decide +kernel
theorem dX7_commute_26 : decode cX7_commute 26 = .ok (.invokevirtual 140, 3) := by decide +kernel
theorem dX7_commute_29 : decode cX7_commute 29 = .ok (.lstore 5, 2) := by decide +kernel
theorem dX7_commute_31 : decode cX7_commute 31 = .ok (.lload_n 3, 1) := by decide +kernel
theorem dX7_commute_32 : decode cX7_commute 32 = .ok (.lload 5, 2) := by decide +kernel
theorem dX7_commute_34 : decode cX7_commute 34 = .ok (.invokestatic 85, 3) := by decide +kernel
theorem dX7_commute_37 : decode cX7_commute 37 = .ok (.lload 5, 2) := by decide +kernel
theorem dX7_commute_39 : decode cX7_commute 39 = .ok (.lload_n 3, 1) := by decide +kernel
theorem dX7_commute_40 : decode cX7_commute 40 = .ok (.invokestatic 85, 3) := by decide +kernel
theorem dX7_commute_43 : decode cX7_commute 43 = .ok (.lcmp, 1) := by decide +kernel
theorem dX7_commute_44 : decode cX7_commute 44 = .ok (.ifCond .ne 7, 3) := by decide +kernel
theorem dX7_commute_47 : decode cX7_commute 47 = .ok (.iconst 1, 1) := by decide +kernel
theorem dX7_commute_48 : decode cX7_commute 48 = .ok (.goto 4, 3) := by decide +kernel
theorem dX7_commute_51 : decode cX7_commute 51 = .ok (.iconst 0, 1) := by decide +kernel
theorem dX7_commute_52 : decode cX7_commute 52 = .ok (.ireturn, 1) := by decide +kernel
theorem dX7_count_0 : decode cX7_count 0 = .ok (.iload_n 1, 1) := by decide +kernel
theorem dX7_count_1 : decode cX7_count 1 = .ok (.tableswitch 112 0 6 #[43, 51, 59, 77, 97, 102, 107], 43) := by decide +kernel
theorem dX7_count_44 : decode cX7_count 44 = .ok (.aload_n 0, 1) := by decide +kernel
theorem dX7_count_45 : decode cX7_count 45 = .ok (.getfield 10, 3) := by decide +kernel
theorem dX7_count_48 : decode cX7_count 48 = .ok (.getfield 56, 3) := by decide +kernel
theorem dX7_count_51 : decode cX7_count 51 = .ok (.ireturn, 1) := by decide +kernel
theorem dX7_count_52 : decode cX7_count 52 = .ok (.aload_n 0, 1) := by decide +kernel
theorem dX7_count_53 : decode cX7_count 53 = .ok (.getfield 10, 3) := by decide +kernel
theorem dX7_count_56 : decode cX7_count 56 = .ok (.getfield 104, 3) := by decide +kernel
theorem dX7_count_59 : decode cX7_count 59 = .ok (.ireturn, 1) := by decide +kernel
theorem dX7_count_60 : decode cX7_count 60 = .ok (.aload_n 0, 1) := by decide +kernel
theorem dX7_count_61 : decode cX7_count 61 = .ok (.getfield 10, 3) := by decide +kernel
theorem dX7_count_64 : decode cX7_count 64 = .ok (.getfield 127, 3) := by decide +kernel
theorem dX7_count_67 : decode cX7_count 67 = .ok (.aload_n 0, 1) := by decide +kernel
theorem dX7_count_68 : decode cX7_count 68 = .ok (.getfield 10, 3) := by decide +kernel
theorem dX7_count_71 : decode cX7_count 71 = .ok (.getfield 56, 3) := by decide +kernel
theorem dX7_count_74 : decode cX7_count 74 = .ok (.invokestatic 153, 3) := by decide +kernel
theorem dX7_count_77 : decode cX7_count 77 = .ok (.ireturn, 1) := by decide +kernel
theorem dX7_count_78 : decode cX7_count 78 = .ok (.aload_n 0, 1) := by decide +kernel
theorem dX7_count_79 : decode cX7_count 79 = .ok (.getfield 10, 3) := by decide +kernel
theorem dX7_count_82 : decode cX7_count 82 = .ok (.getfield 127, 3) := by decide +kernel
theorem dX7_count_85 : decode cX7_count 85 = .ok (.ldc2_w 125, 3) := by decide +kernel
theorem dX7_count_88 : decode cX7_count 88 = .ok (.lcmp, 1) := by decide +kernel
theorem dX7_count_89 : decode cX7_count 89 = .ok (.ifCond .ne 7, 3) := by decide +kernel
theorem dX7_count_92 : decode cX7_count 92 = .ok (.iconst 1, 1) := by decide +kernel
theorem dX7_count_93 : decode cX7_count 93 = .ok (.goto 4, 3) := by decide +kernel
theorem dX7_count_96 : decode cX7_count 96 = .ok (.iconst 0, 1) := by decide +kernel
theorem dX7_count_97 : decode cX7_count 97 = .ok (.ireturn, 1) := by decide +kernel
theorem dX7_count_98 : decode cX7_count 98 = .ok (.aload_n 0, 1) := by decide +kernel
theorem dX7_count_99 : decode cX7_count 99 = .ok (.invokevirtual 122, 3) := by decide +kernel
theorem dX7_count_102 : decode cX7_count 102 = .ok (.ireturn, 1) := by decide +kernel
theorem dX7_count_103 : decode cX7_count 103 = .ok (.aload_n 0, 1) := by decide +kernel
theorem dX7_count_104 : decode cX7_count 104 = .ok (.getfield 46, 3) := by decide +kernel
theorem dX7_count_107 : decode cX7_count 107 = .ok (.ireturn, 1) := by decide +kernel
theorem dX7_count_108 : decode cX7_count 108 = .ok (.aload_n 0, 1) := by decide +kernel
theorem dX7_count_109 : decode cX7_count 109 = .ok (.getfield 50, 3) := by decide +kernel
theorem dX7_count_112 : decode cX7_count 112 = .ok (.ireturn, 1) := by decide +kernel
theorem dX7_count_113 : decode cX7_count 113 = .ok (.bipush (-2), 2) := by decide +kernel
theorem dX7_count_115 : decode cX7_count 115 = .ok (.ireturn, 1) := by decide +kernel
theorem dX7_spread_0 : decode cX7_spread 0 = .ok (.dconst 0, 1) := by decide +kernel
theorem dX7_spread_1 : decode cX7_spread 1 = .ok (.dstore_n 1, 1) := by decide +kernel
theorem dX7_spread_2 : decode cX7_spread 2 = .ok (.iconst 0, 1) := by decide +kernel
theorem dX7_spread_3 : decode cX7_spread 3 = .ok (.istore_n 3, 1) := by decide +kernel
theorem dX7_spread_4 : decode cX7_spread 4 = .ok (.iload_n 3, 1) := by decide +kernel
theorem dX7_spread_5 : decode cX7_spread 5 = .ok (.aload_n 0, 1) := by decide +kernel
theorem dX7_spread_6 : decode cX7_spread 6 = .ok (.getfield 10, 3) := by decide +kernel
theorem dX7_spread_9 : decode cX7_spread 9 = .ok (.getfield 56, 3) := by decide +kernel
theorem dX7_spread_12 : decode cX7_spread 12 = .ok (.if_icmp .ge 41, 3) := by decide +kernel
theorem dX7_spread_15 : decode cX7_spread 15 = .ok (.aload_n 0, 1) := by decide +kernel
theorem dX7_spread_16 : decode cX7_spread 16 = .ok (.getfield 10, 3) := by decide +kernel
theorem dX7_spread_19 : decode cX7_spread 19 = .ok (.getfield 127, 3) := by decide +kernel
theorem dX7_spread_22 : decode cX7_spread 22 = .ok (.iload_n 3, 1) := by decide +kernel
theorem dX7_spread_23 : decode cX7_spread 23 = .ok (.invokestatic 130, 3) := by decide +kernel
theorem dX7_spread_26 : decode cX7_spread 26 = .ok (.iload_n 3, 1) := by decide +kernel
theorem dX7_spread_27 : decode cX7_spread 27 = .ok (.isub, 1) := by decide +kernel
theorem dX7_spread_28 : decode cX7_spread 28 = .ok (.istore 4, 2) := by decide +kernel
theorem dX7_spread_30 : decode cX7_spread 30 = .ok (.dload_n 1, 1) := by decide +kernel
theorem dX7_spread_31 : decode cX7_spread 31 = .ok (.iload 4, 2) := by decide +kernel
theorem dX7_spread_33 : decode cX7_spread 33 = .ok (.ifCond .ge 9, 3) := by decide +kernel
theorem dX7_spread_36 : decode cX7_spread 36 = .ok (.iload 4, 2) := by decide +kernel
theorem dX7_spread_38 : decode cX7_spread 38 = .ok (.ineg, 1) := by decide +kernel
theorem dX7_spread_39 : decode cX7_spread 39 = .ok (.goto 5, 3) := by decide +kernel
theorem dX7_spread_42 : decode cX7_spread 42 = .ok (.iload 4, 2) := by decide +kernel
theorem dX7_spread_44 : decode cX7_spread 44 = .ok (.i2d, 1) := by decide +kernel
theorem dX7_spread_45 : decode cX7_spread 45 = .ok (.dadd, 1) := by decide +kernel
theorem dX7_spread_46 : decode cX7_spread 46 = .ok (.dstore_n 1, 1) := by decide +kernel
theorem dX7_spread_47 : decode cX7_spread 47 = .ok (.iinc 3 1, 3) := by decide +kernel
theorem dX7_spread_50 : decode cX7_spread 50 = .ok (.goto (-46), 3) := by decide +kernel
theorem dX7_spread_53 : decode cX7_spread 53 = .ok (.aload_n 0, 1) := by decide +kernel
theorem dX7_spread_54 : decode cX7_spread 54 = .ok (.getfield 10, 3) := by decide +kernel
theorem dX7_spread_57 : decode cX7_spread 57 = .ok (.getfield 56, 3) := by decide +kernel
theorem dX7_spread_60 : decode cX7_spread 60 = .ok (.ifCond .le 16, 3) := by decide +kernel
theorem dX7_spread_63 : decode cX7_spread 63 = .ok (.dload_n 1, 1) := by decide +kernel
theorem dX7_spread_64 : decode cX7_spread 64 = .ok (.aload_n 0, 1) := by decide +kernel
theorem dX7_spread_65 : decode cX7_spread 65 = .ok (.getfield 10, 3) := by decide +kernel
theorem dX7_spread_68 : decode cX7_spread 68 = .ok (.getfield 56, 3) := by decide +kernel
theorem dX7_spread_71 : decode cX7_spread 71 = .ok (.i2d, 1) := by decide +kernel
theorem dX7_spread_72 : decode cX7_spread 72 = .ok (.ddiv, 1) := by decide +kernel
theorem dX7_spread_73 : decode cX7_spread 73 = .ok (.goto 4, 3) := by decide +kernel
theorem dX7_spread_76 : decode cX7_spread 76 = .ok (.dconst 0, 1) := by decide +kernel
theorem dX7_spread_77 : decode cX7_spread 77 = .ok (.invokestatic 179, 3) := by decide +kernel
theorem dX7_spread_80 : decode cX7_spread 80 = .ok (.lreturn, 1) := by decide +kernel
theorem dX7_share_0 : decode cX7_share 0 = .ok (.aload_n 0, 1) := by decide +kernel
theorem dX7_share_1 : decode cX7_share 1 = .ok (.getfield 10, 3) := by decide +kernel
theorem dX7_share_4 : decode cX7_share 4 = .ok (.getfield 127, 3) := by decide +kernel
theorem dX7_share_7 : decode cX7_share 7 = .ok (.aload_n 0, 1) := by decide +kernel
theorem dX7_share_8 : decode cX7_share 8 = .ok (.getfield 10, 3) := by decide +kernel
theorem dX7_share_11 : decode cX7_share 11 = .ok (.getfield 56, 3) := by decide +kernel
theorem dX7_share_14 : decode cX7_share 14 = .ok (.invokestatic 153, 3) := by decide +kernel
theorem dX7_share_17 : decode cX7_share 17 = .ok (.invokestatic 185, 3) := by decide +kernel
theorem dX7_share_20 : decode cX7_share 20 = .ok (.istore_n 1, 1) := by decide +kernel
theorem dX7_share_21 : decode cX7_share 21 = .ok (.aload_n 0, 1) := by decide +kernel
theorem dX7_share_22 : decode cX7_share 22 = .ok (.getfield 10, 3) := by decide +kernel
theorem dX7_share_25 : decode cX7_share 25 = .ok (.getfield 56, 3) := by decide +kernel
theorem dX7_share_28 : decode cX7_share 28 = .ok (.ifCond .le 17, 3) := by decide +kernel
theorem dX7_share_31 : decode cX7_share 31 = .ok (.iload_n 1, 1) := by decide +kernel
theorem dX7_share_32 : decode cX7_share 32 = .ok (.i2f, 1) := by decide +kernel
theorem dX7_share_33 : decode cX7_share 33 = .ok (.aload_n 0, 1) := by decide +kernel
theorem dX7_share_34 : decode cX7_share 34 = .ok (.getfield 10, 3) := by decide +kernel
theorem dX7_share_37 : decode cX7_share 37 = .ok (.getfield 56, 3) := by decide +kernel
theorem dX7_share_40 : decode cX7_share 40 = .ok (.i2f, 1) := by decide +kernel
theorem dX7_share_41 : decode cX7_share 41 = .ok (.fdiv, 1) := by decide +kernel
theorem dX7_share_42 : decode cX7_share 42 = .ok (.goto 4, 3) := by decide +kernel
theorem dX7_share_45 : decode cX7_share 45 = .ok (.fconst 0, 1) := by decide +kernel
theorem dX7_share_46 : decode cX7_share 46 = .ok (.invokestatic 191, 3) := by decide +kernel
theorem dX7_share_49 : decode cX7_share 49 = .ok (.ireturn, 1) := by decide +kernel
theorem dX7_byCut_0 : decode cX7_byCut 0 = .ok (.aload_n 0, 1) := by decide +kernel
theorem dX7_byCut_1 : decode cX7_byCut 1 = .ok (.getfield 10, 3) := by decide +kernel
theorem dX7_byCut_4 : decode cX7_byCut 4 = .ok (.iload_n 1, 1) := by decide +kernel
theorem dX7_byCut_5 : decode cX7_byCut 5 = .ok (.invokevirtual 77, 3) := by decide +kernel
theorem dX7_byCut_8 : decode cX7_byCut 8 = .ok (.ifCond .eq 14, 3) := by decide +kernel
theorem dX7_byCut_11 : decode cX7_byCut 11 = .ok (.aload_n 0, 1) := by decide +kernel
theorem dX7_byCut_12 : decode cX7_byCut 12 = .ok (.getfield 10, 3) := by decide +kernel
theorem dX7_byCut_15 : decode cX7_byCut 15 = .ok (.iload_n 3, 1) := by decide +kernel
theorem dX7_byCut_16 : decode cX7_byCut 16 = .ok (.invokevirtual 110, 3) := by decide +kernel
theorem dX7_byCut_19 : decode cX7_byCut 19 = .ok (.ifCond .ne 5, 3) := by decide +kernel
theorem dX7_byCut_22 : decode cX7_byCut 22 = .ok (.iconst (-1), 1) := by decide +kernel
theorem dX7_byCut_23 : decode cX7_byCut 23 = .ok (.ireturn, 1) := by decide +kernel
theorem dX7_byCut_24 : decode cX7_byCut 24 = .ok (.aload_n 0, 1) := by decide +kernel
theorem dX7_byCut_25 : decode cX7_byCut 25 = .ok (.getfield 10, 3) := by decide +kernel
theorem dX7_byCut_28 : decode cX7_byCut 28 = .ok (.iload_n 2, 1) := by decide +kernel
theorem dX7_byCut_29 : decode cX7_byCut 29 = .ok (.invokevirtual 110, 3) := by decide +kernel
theorem dX7_byCut_32 : decode cX7_byCut 32 = .ok (.ifCond .ne 6, 3) := by decide +kernel
theorem dX7_byCut_35 : decode cX7_byCut 35 = .ok (.bipush (-2), 2) := by decide +kernel
theorem dX7_byCut_37 : decode cX7_byCut 37 = .ok (.ireturn, 1) := by decide +kernel
theorem dX7_byCut_38 : decode cX7_byCut 38 = .ok (.aload_n 0, 1) := by decide +kernel
theorem dX7_byCut_39 : decode cX7_byCut 39 = .ok (.getfield 10, 3) := by decide +kernel
theorem dX7_byCut_42 : decode cX7_byCut 42 = .ok (.iload_n 1, 1) := by decide +kernel
theorem dX7_byCut_43 : decode cX7_byCut 43 = .ok (.invokevirtual 81, 3) := by decide +kernel
theorem dX7_byCut_46 : decode cX7_byCut 46 = .ok (.iload_n 2, 1) := by decide +kernel
theorem dX7_byCut_47 : decode cX7_byCut 47 = .ok (.aload_n 0, 1) := by decide +kernel
theorem dX7_byCut_48 : decode cX7_byCut 48 = .ok (.getfield 10, 3) := by decide +kernel
theorem dX7_byCut_51 : decode cX7_byCut 51 = .ok (.getfield 56, 3) := by decide +kernel
theorem dX7_byCut_54 : decode cX7_byCut 54 = .ok (.invokestatic 195, 3) := by decide +kernel
theorem dX7_byCut_57 : decode cX7_byCut 57 = .ok (.iload_n 3, 1) := by decide +kernel
theorem dX7_byCut_58 : decode cX7_byCut 58 = .ok (.invokestatic 134, 3) := by decide +kernel
theorem dX7_byCut_61 : decode cX7_byCut 61 = .ok (.ireturn, 1) := by decide +kernel
theorem dX7_undo_0 : decode cX7_undo 0 = .ok (.aload_n 0, 1) := by decide +kernel
theorem dX7_undo_1 : decode cX7_undo 1 = .ok (.getfield 50, 3) := by decide +kernel
theorem dX7_undo_4 : decode cX7_undo 4 = .ok (.ifCond .ne 6, 3) := by decide +kernel
theorem dX7_undo_7 : decode cX7_undo 7 = .ok (.bipush (-5), 2) := by decide +kernel
theorem dX7_undo_9 : decode cX7_undo 9 = .ok (.ireturn, 1) := by decide +kernel
theorem dX7_undo_10 : decode cX7_undo 10 = .ok (.aload_n 0, 1) := by decide +kernel
theorem dX7_undo_11 : decode cX7_undo 11 = .ok (.aload_n 0, 1) := by decide +kernel
theorem dX7_undo_12 : decode cX7_undo 12 = .ok (.getfield 53, 3) := by decide +kernel
theorem dX7_undo_15 : decode cX7_undo 15 = .ok (.ifCond .ne 7, 3) := by decide +kernel
theorem dX7_undo_18 : decode cX7_undo 18 = .ok (.iconst 5, 1) := by decide +kernel
theorem dX7_undo_19 : decode cX7_undo 19 = .ok (.goto 9, 3) := by decide +kernel
theorem dX7_undo_22 : decode cX7_undo 22 = .ok (.aload_n 0, 1) := by decide +kernel
theorem dX7_undo_23 : decode cX7_undo 23 = .ok (.getfield 53, 3) := by decide +kernel
theorem dX7_undo_26 : decode cX7_undo 26 = .ok (.iconst 1, 1) := by decide +kernel
theorem dX7_undo_27 : decode cX7_undo 27 = .ok (.isub, 1) := by decide +kernel
theorem dX7_undo_28 : decode cX7_undo 28 = .ok (.putfield 53, 3) := by decide +kernel
theorem dX7_undo_31 : decode cX7_undo 31 = .ok (.aload_n 0, 1) := by decide +kernel
theorem dX7_undo_32 : decode cX7_undo 32 = .ok (.getfield 21, 3) := by decide +kernel
theorem dX7_undo_35 : decode cX7_undo 35 = .ok (.aload_n 0, 1) := by decide +kernel
theorem dX7_undo_36 : decode cX7_undo 36 = .ok (.getfield 53, 3) := by decide +kernel
theorem dX7_undo_39 : decode cX7_undo 39 = .ok (.aload_n 0, 1) := by decide +kernel
theorem dX7_undo_40 : decode cX7_undo 40 = .ok (.getfield 10, 3) := by decide +kernel
theorem dX7_undo_43 : decode cX7_undo 43 = .ok (.invokevirtual 219, 3) := by decide +kernel
theorem dX7_undo_46 : decode cX7_undo 46 = .ok (.aload_n 0, 1) := by decide +kernel
theorem dX7_undo_47 : decode cX7_undo 47 = .ok (.dup, 1) := by decide +kernel
theorem dX7_undo_48 : decode cX7_undo 48 = .ok (.getfield 50, 3) := by decide +kernel
theorem dX7_undo_51 : decode cX7_undo 51 = .ok (.iconst 1, 1) := by decide +kernel
theorem dX7_undo_52 : decode cX7_undo 52 = .ok (.isub, 1) := by decide +kernel
theorem dX7_undo_53 : decode cX7_undo 53 = .ok (.putfield 50, 3) := by decide +kernel
theorem dX7_undo_56 : decode cX7_undo 56 = .ok (.aload_n 0, 1) := by decide +kernel
theorem dX7_undo_57 : decode cX7_undo 57 = .ok (.getfield 50, 3) := by decide +kernel
theorem dX7_undo_60 : decode cX7_undo 60 = .ok (.ireturn, 1) := by decide +kernel
theorem dX7_save_0 : decode cX7_save 0 = .ok (.aload_n 0, 1) := by decide +kernel
theorem dX7_save_1 : decode cX7_save 1 = .ok (.getfield 25, 3) := by decide +kernel
theorem dX7_save_4 : decode cX7_save 4 = .ok (.iload_n 1, 1) := by decide +kernel
theorem dX7_save_5 : decode cX7_save 5 = .ok (.invokevirtual 223, 3) := by decide +kernel
theorem dX7_save_8 : decode cX7_save 8 = .ok (.ifCond .ne 6, 3) := by decide +kernel
theorem dX7_save_11 : decode cX7_save 11 = .ok (.bipush (-2), 2) := by decide +kernel
theorem dX7_save_13 : decode cX7_save 13 = .ok (.ireturn, 1) := by decide +kernel
theorem dX7_save_14 : decode cX7_save 14 = .ok (.aload_n 0, 1) := by decide +kernel
theorem dX7_save_15 : decode cX7_save 15 = .ok (.getfield 25, 3) := by decide +kernel
theorem dX7_save_18 : decode cX7_save 18 = .ok (.iload_n 1, 1) := by decide +kernel
theorem dX7_save_19 : decode cX7_save 19 = .ok (.aload_n 0, 1) := by decide +kernel
theorem dX7_save_20 : decode cX7_save 20 = .ok (.getfield 10, 3) := by decide +kernel
theorem dX7_save_23 : decode cX7_save 23 = .ok (.invokevirtual 224, 3) := by decide +kernel
theorem dX7_save_26 : decode cX7_save 26 = .ok (.aload_n 0, 1) := by decide +kernel
theorem dX7_save_27 : decode cX7_save 27 = .ok (.getfield 10, 3) := by decide +kernel
theorem dX7_save_30 : decode cX7_save 30 = .ok (.getfield 104, 3) := by decide +kernel
theorem dX7_save_33 : decode cX7_save 33 = .ok (.ireturn, 1) := by decide +kernel
theorem dX7_restore_0 : decode cX7_restore 0 = .ok (.aload_n 0, 1) := by decide +kernel
theorem dX7_restore_1 : decode cX7_restore 1 = .ok (.getfield 25, 3) := by decide +kernel
theorem dX7_restore_4 : decode cX7_restore 4 = .ok (.iload_n 1, 1) := by decide +kernel
theorem dX7_restore_5 : decode cX7_restore 5 = .ok (.invokevirtual 223, 3) := by decide +kernel
theorem dX7_restore_8 : decode cX7_restore 8 = .ok (.ifCond .ne 6, 3) := by decide +kernel
theorem dX7_restore_11 : decode cX7_restore 11 = .ok (.bipush (-2), 2) := by decide +kernel
theorem dX7_restore_13 : decode cX7_restore 13 = .ok (.ireturn, 1) := by decide +kernel
theorem dX7_restore_14 : decode cX7_restore 14 = .ok (.aload_n 0, 1) := by decide +kernel
theorem dX7_restore_15 : decode cX7_restore 15 = .ok (.getfield 25, 3) := by decide +kernel
theorem dX7_restore_18 : decode cX7_restore 18 = .ok (.iload_n 1, 1) := by decide +kernel
theorem dX7_restore_19 : decode cX7_restore 19 = .ok (.invokevirtual 227, 3) := by decide +kernel
theorem dX7_restore_22 : decode cX7_restore 22 = .ok (.ifCond .ne 6, 3) := by decide +kernel
theorem dX7_restore_25 : decode cX7_restore 25 = .ok (.bipush (-5), 2) := by decide +kernel
theorem dX7_restore_27 : decode cX7_restore 27 = .ok (.ireturn, 1) := by decide +kernel
theorem dX7_restore_28 : decode cX7_restore 28 = .ok (.aload_n 0, 1) := by decide +kernel
theorem dX7_restore_29 : decode cX7_restore 29 = .ok (.invokevirtual 59, 3) := by decide +kernel
theorem dX7_restore_32 : decode cX7_restore 32 = .ok (.aload_n 0, 1) := by decide +kernel
theorem dX7_restore_33 : decode cX7_restore 33 = .ok (.getfield 25, 3) := by decide +kernel
theorem dX7_restore_36 : decode cX7_restore 36 = .ok (.iload_n 1, 1) := by decide +kernel
theorem dX7_restore_37 : decode cX7_restore 37 = .ok (.aload_n 0, 1) := by decide +kernel
theorem dX7_restore_38 : decode cX7_restore 38 = .ok (.getfield 10, 3) := by decide +kernel
theorem dX7_restore_41 : decode cX7_restore 41 = .ok (.invokevirtual 219, 3) := by decide +kernel
theorem dX7_restore_44 : decode cX7_restore 44 = .ok (.aload_n 0, 1) := by decide +kernel
theorem dX7_restore_45 : decode cX7_restore 45 = .ok (.getfield 10, 3) := by decide +kernel
theorem dX7_restore_48 : decode cX7_restore 48 = .ok (.getfield 104, 3) := by decide +kernel
theorem dX7_restore_51 : decode cX7_restore 51 = .ok (.ireturn, 1) := by decide +kernel
theorem dX7_keepForUndo_0 : decode cX7_keepForUndo 0 = .ok (.aload_n 0, 1) := by decide +kernel
theorem dX7_keepForUndo_1 : decode cX7_keepForUndo 1 = .ok (.getfield 21, 3) := by decide +kernel
theorem dX7_keepForUndo_4 : decode cX7_keepForUndo 4 = .ok (.aload_n 0, 1) := by decide +kernel
theorem dX7_keepForUndo_5 : decode cX7_keepForUndo 5 = .ok (.getfield 53, 3) := by decide +kernel
theorem dX7_keepForUndo_8 : decode cX7_keepForUndo 8 = .ok (.aload_n 0, 1) := by decide +kernel
theorem dX7_keepForUndo_9 : decode cX7_keepForUndo 9 = .ok (.getfield 10, 3) := by decide +kernel
theorem dX7_keepForUndo_12 : decode cX7_keepForUndo 12 = .ok (.invokevirtual 224, 3) := by decide +kernel
theorem dX7_keepForUndo_15 : decode cX7_keepForUndo 15 = .ok (.aload_n 0, 1) := by decide +kernel
theorem dX7_keepForUndo_16 : decode cX7_keepForUndo 16 = .ok (.aload_n 0, 1) := by decide +kernel
theorem dX7_keepForUndo_17 : decode cX7_keepForUndo 17 = .ok (.getfield 53, 3) := by decide +kernel
theorem dX7_keepForUndo_20 : decode cX7_keepForUndo 20 = .ok (.iconst 1, 1) := by decide +kernel
theorem dX7_keepForUndo_21 : decode cX7_keepForUndo 21 = .ok (.iadd, 1) := by decide +kernel
theorem dX7_keepForUndo_22 : decode cX7_keepForUndo 22 = .ok (.bipush 6, 2) := by decide +kernel
theorem dX7_keepForUndo_24 : decode cX7_keepForUndo 24 = .ok (.if_icmp .ne 7, 3) := by decide +kernel
theorem dX7_keepForUndo_27 : decode cX7_keepForUndo 27 = .ok (.iconst 0, 1) := by decide +kernel
theorem dX7_keepForUndo_28 : decode cX7_keepForUndo 28 = .ok (.goto 9, 3) := by decide +kernel
theorem dX7_keepForUndo_31 : decode cX7_keepForUndo 31 = .ok (.aload_n 0, 1) := by decide +kernel
theorem dX7_keepForUndo_32 : decode cX7_keepForUndo 32 = .ok (.getfield 53, 3) := by decide +kernel
theorem dX7_keepForUndo_35 : decode cX7_keepForUndo 35 = .ok (.iconst 1, 1) := by decide +kernel
theorem dX7_keepForUndo_36 : decode cX7_keepForUndo 36 = .ok (.iadd, 1) := by decide +kernel
theorem dX7_keepForUndo_37 : decode cX7_keepForUndo 37 = .ok (.putfield 53, 3) := by decide +kernel
theorem dX7_keepForUndo_40 : decode cX7_keepForUndo 40 = .ok (.aload_n 0, 1) := by decide +kernel
theorem dX7_keepForUndo_41 : decode cX7_keepForUndo 41 = .ok (.getfield 50, 3) := by decide +kernel
theorem dX7_keepForUndo_44 : decode cX7_keepForUndo 44 = .ok (.bipush 6, 2) := by decide +kernel
theorem dX7_keepForUndo_46 : decode cX7_keepForUndo 46 = .ok (.if_icmp .ge 13, 3) := by decide +kernel
theorem dX7_keepForUndo_49 : decode cX7_keepForUndo 49 = .ok (.aload_n 0, 1) := by decide +kernel
theorem dX7_keepForUndo_50 : decode cX7_keepForUndo 50 = .ok (.dup, 1) := by decide +kernel
theorem dX7_keepForUndo_51 : decode cX7_keepForUndo 51 = .ok (.getfield 50, 3) := by decide +kernel
theorem dX7_keepForUndo_54 : decode cX7_keepForUndo 54 = .ok (.iconst 1, 1) := by decide +kernel
theorem dX7_keepForUndo_55 : decode cX7_keepForUndo 55 = .ok (.iadd, 1) := by decide +kernel
theorem dX7_keepForUndo_56 : decode cX7_keepForUndo 56 = .ok (.putfield 50, 3) := by decide +kernel
theorem dX7_keepForUndo_59 : decode cX7_keepForUndo 59 = .ok (.return_, 1) := by decide +kernel
theorem dX7_comes_0 : decode cX7_comes 0 = .ok (.aload_n 0, 1) := by decide +kernel
theorem dX7_comes_1 : decode cX7_comes 1 = .ok (.getfield 10, 3) := by decide +kernel
theorem dX7_comes_4 : decode cX7_comes 4 = .ok (.getfield 104, 3) := by decide +kernel
theorem dX7_comes_7 : decode cX7_comes 7 = .ok (.bipush 6, 2) := by decide +kernel
theorem dX7_comes_9 : decode cX7_comes 9 = .ok (.if_icmp .lt 6, 3) := by decide +kernel
theorem dX7_comes_12 : decode cX7_comes 12 = .ok (.bipush (-4), 2) := by decide +kernel
theorem dX7_comes_14 : decode cX7_comes 14 = .ok (.ireturn, 1) := by decide +kernel
theorem dX7_comes_15 : decode cX7_comes 15 = .ok (.aload_n 0, 1) := by decide +kernel
theorem dX7_comes_16 : decode cX7_comes 16 = .ok (.invokevirtual 59, 3) := by decide +kernel
theorem dX7_comes_19 : decode cX7_comes 19 = .ok (.aload_n 0, 1) := by decide +kernel
theorem dX7_comes_20 : decode cX7_comes 20 = .ok (.getfield 10, 3) := by decide +kernel
theorem dX7_comes_23 : decode cX7_comes 23 = .ok (.lload_n 1, 1) := by decide +kernel
theorem dX7_comes_24 : decode cX7_comes 24 = .ok (.invokevirtual 230, 3) := by decide +kernel
theorem dX7_comes_27 : decode cX7_comes 27 = .ok (.ireturn, 1) := by decide +kernel
theorem dX7_moveDeck_0 : decode cX7_moveDeck 0 = .ok (.aload_n 0, 1) := by decide +kernel
theorem dX7_moveDeck_1 : decode cX7_moveDeck 1 = .ok (.invokevirtual 59, 3) := by decide +kernel
theorem dX7_moveDeck_4 : decode cX7_moveDeck 4 = .ok (.aload_n 0, 1) := by decide +kernel
theorem dX7_moveDeck_5 : decode cX7_moveDeck 5 = .ok (.getfield 10, 3) := by decide +kernel
theorem dX7_moveDeck_8 : decode cX7_moveDeck 8 = .ok (.aload_n 0, 1) := by decide +kernel
theorem dX7_moveDeck_9 : decode cX7_moveDeck 9 = .ok (.getfield 10, 3) := by decide +kernel
theorem dX7_moveDeck_12 : decode cX7_moveDeck 12 = .ok (.getfield 127, 3) := by decide +kernel
theorem dX7_moveDeck_15 : decode cX7_moveDeck 15 = .ok (.lload_n 1, 1) := by decide +kernel
theorem dX7_moveDeck_16 : decode cX7_moveDeck 16 = .ok (.invokestatic 85, 3) := by decide +kernel
theorem dX7_moveDeck_19 : decode cX7_moveDeck 19 = .ok (.putfield 127, 3) := by decide +kernel
theorem dX7_moveDeck_22 : decode cX7_moveDeck 22 = .ok (.aload_n 0, 1) := by decide +kernel
theorem dX7_moveDeck_23 : decode cX7_moveDeck 23 = .ok (.getfield 10, 3) := by decide +kernel
theorem dX7_moveDeck_26 : decode cX7_moveDeck 26 = .ok (.aload_n 0, 1) := by decide +kernel
theorem dX7_moveDeck_27 : decode cX7_moveDeck 27 = .ok (.getfield 10, 3) := by decide +kernel
theorem dX7_moveDeck_30 : decode cX7_moveDeck 30 = .ok (.getfield 98, 3) := by decide +kernel
theorem dX7_moveDeck_33 : decode cX7_moveDeck 33 = .ok (.lload_n 1, 1) := by decide +kernel
theorem dX7_moveDeck_34 : decode cX7_moveDeck 34 = .ok (.invokestatic 85, 3) := by decide +kernel
theorem dX7_moveDeck_37 : decode cX7_moveDeck 37 = .ok (.putfield 98, 3) := by decide +kernel
theorem dX7_moveDeck_40 : decode cX7_moveDeck 40 = .ok (.aload_n 0, 1) := by decide +kernel
theorem dX7_moveDeck_41 : decode cX7_moveDeck 41 = .ok (.getfield 10, 3) := by decide +kernel
theorem dX7_moveDeck_44 : decode cX7_moveDeck 44 = .ok (.getfield 127, 3) := by decide +kernel
theorem dX7_moveDeck_47 : decode cX7_moveDeck 47 = .ok (.iconst 0, 1) := by decide +kernel
theorem dX7_moveDeck_48 : decode cX7_moveDeck 48 = .ok (.invokestatic 130, 3) := by decide +kernel
theorem dX7_moveDeck_51 : decode cX7_moveDeck 51 = .ok (.ireturn, 1) := by decide +kernel
theorem dX7_placesMoved_0 : decode cX7_placesMoved 0 = .ok (.aload_n 0, 1) := by decide +kernel
theorem dX7_placesMoved_1 : decode cX7_placesMoved 1 = .ok (.getfield 10, 3) := by decide +kernel
theorem dX7_placesMoved_4 : decode cX7_placesMoved 4 = .ok (.getfield 56, 3) := by decide +kernel
theorem dX7_placesMoved_7 : decode cX7_placesMoved 7 = .ok (.aload_n 0, 1) := by decide +kernel
theorem dX7_placesMoved_8 : decode cX7_placesMoved 8 = .ok (.getfield 10, 3) := by decide +kernel
theorem dX7_placesMoved_11 : decode cX7_placesMoved 11 = .ok (.getfield 98, 3) := by decide +kernel
theorem dX7_placesMoved_14 : decode cX7_placesMoved 14 = .ok (.aload_n 0, 1) := by decide +kernel
theorem dX7_placesMoved_15 : decode cX7_placesMoved 15 = .ok (.getfield 10, 3) := by decide +kernel
theorem dX7_placesMoved_18 : decode cX7_placesMoved 18 = .ok (.getfield 56, 3) := by decide +kernel
theorem dX7_placesMoved_21 : decode cX7_placesMoved 21 = .ok (.invokestatic 153, 3) := by decide +kernel
theorem dX7_placesMoved_24 : decode cX7_placesMoved 24 = .ok (.invokestatic 185, 3) := by decide +kernel
theorem dX7_placesMoved_27 : decode cX7_placesMoved 27 = .ok (.isub, 1) := by decide +kernel
theorem dX7_placesMoved_28 : decode cX7_placesMoved 28 = .ok (.ireturn, 1) := by decide +kernel
theorem dX7_isMarkOrTrick_0 : decode cX7_isMarkOrTrick 0 = .ok (.iload_n 1, 1) := by decide +kernel
theorem dX7_isMarkOrTrick_1 : decode cX7_isMarkOrTrick 1 = .ok (.bipush (-6), 2) := by decide +kernel
theorem dX7_isMarkOrTrick_3 : decode cX7_isMarkOrTrick 3 = .ok (.if_icmp .eq 14, 3) := by decide +kernel
theorem dX7_isMarkOrTrick_6 : decode cX7_isMarkOrTrick 6 = .ok (.aload_n 0, 1) := by decide +kernel
theorem dX7_isMarkOrTrick_7 : decode cX7_isMarkOrTrick 7 = .ok (.getfield 10, 3) := by decide +kernel
theorem dX7_isMarkOrTrick_10 : decode cX7_isMarkOrTrick 10 = .ok (.iload_n 1, 1) := by decide +kernel
theorem dX7_isMarkOrTrick_11 : decode cX7_isMarkOrTrick 11 = .ok (.invokevirtual 77, 3) := by decide +kernel
theorem dX7_isMarkOrTrick_14 : decode cX7_isMarkOrTrick 14 = .ok (.ifCond .eq 7, 3) := by decide +kernel
theorem dX7_isMarkOrTrick_17 : decode cX7_isMarkOrTrick 17 = .ok (.iconst 1, 1) := by decide +kernel
theorem dX7_isMarkOrTrick_18 : decode cX7_isMarkOrTrick 18 = .ok (.goto 4, 3) := by decide +kernel
theorem dX7_isMarkOrTrick_21 : decode cX7_isMarkOrTrick 21 = .ok (.iconst 0, 1) := by decide +kernel
theorem dX7_isMarkOrTrick_22 : decode cX7_isMarkOrTrick 22 = .ok (.ireturn, 1) := by decide +kernel
theorem dX7_markOrTrick_0 : decode cX7_markOrTrick 0 = .ok (.iload_n 1, 1) := by decide +kernel
theorem dX7_markOrTrick_1 : decode cX7_markOrTrick 1 = .ok (.bipush (-6), 2) := by decide +kernel
theorem dX7_markOrTrick_3 : decode cX7_markOrTrick 3 = .ok (.if_icmp .ne 13, 3) := by decide +kernel
theorem dX7_markOrTrick_6 : decode cX7_markOrTrick 6 = .ok (.aload_n 0, 1) := by decide +kernel
theorem dX7_markOrTrick_7 : decode cX7_markOrTrick 7 = .ok (.getfield 10, 3) := by decide +kernel
theorem dX7_markOrTrick_10 : decode cX7_markOrTrick 10 = .ok (.getfield 98, 3) := by decide +kernel
theorem dX7_markOrTrick_13 : decode cX7_markOrTrick 13 = .ok (.goto 11, 3) := by decide +kernel
theorem dX7_markOrTrick_16 : decode cX7_markOrTrick 16 = .ok (.aload_n 0, 1) := by decide +kernel
theorem dX7_markOrTrick_17 : decode cX7_markOrTrick 17 = .ok (.getfield 10, 3) := by decide +kernel
theorem dX7_markOrTrick_20 : decode cX7_markOrTrick 20 = .ok (.iload_n 1, 1) := by decide +kernel
theorem dX7_markOrTrick_21 : decode cX7_markOrTrick 21 = .ok (.invokevirtual 81, 3) := by decide +kernel
theorem dX7_markOrTrick_24 : decode cX7_markOrTrick 24 = .ok (.lreturn, 1) := by decide +kernel
theorem dX7_isPower_0 : decode cX7_isPower 0 = .ok (.iload_n 0, 1) := by decide +kernel
theorem dX7_isPower_1 : decode cX7_isPower 1 = .ok (.sipush (-999), 3) := by decide +kernel
theorem dX7_isPower_4 : decode cX7_isPower 4 = .ok (.if_icmp .lt 14, 3) := by decide +kernel
theorem dX7_isPower_7 : decode cX7_isPower 7 = .ok (.iload_n 0, 1) := by decide +kernel
theorem dX7_isPower_8 : decode cX7_isPower 8 = .ok (.sipush 999, 3) := by decide +kernel
theorem dX7_isPower_11 : decode cX7_isPower 11 = .ok (.if_icmp .gt 7, 3) := by decide +kernel
theorem dX7_isPower_14 : decode cX7_isPower 14 = .ok (.iconst 1, 1) := by decide +kernel
theorem dX7_isPower_15 : decode cX7_isPower 15 = .ok (.goto 4, 3) := by decide +kernel
theorem dX7_isPower_18 : decode cX7_isPower 18 = .ok (.iconst 0, 1) := by decide +kernel
theorem dX7_isPower_19 : decode cX7_isPower 19 = .ok (.ireturn, 1) := by decide +kernel
theorem dX7_cutsThatStay_0 : decode cX7_cutsThatStay 0 = .ok (.iconst 0, 1) := by decide +kernel
theorem dX7_cutsThatStay_1 : decode cX7_cutsThatStay 1 = .ok (.istore_n 3, 1) := by decide +kernel
theorem dX7_cutsThatStay_2 : decode cX7_cutsThatStay 2 = .ok (.iconst 0, 1) := by decide +kernel
theorem dX7_cutsThatStay_3 : decode cX7_cutsThatStay 3 = .ok (.istore 4, 2) := by decide +kernel
theorem dX7_cutsThatStay_5 : decode cX7_cutsThatStay 5 = .ok (.iload 4, 2) := by decide +kernel
theorem dX7_cutsThatStay_7 : decode cX7_cutsThatStay 7 = .ok (.aload_n 0, 1) := by decide +kernel
theorem dX7_cutsThatStay_8 : decode cX7_cutsThatStay 8 = .ok (.getfield 10, 3) := by decide +kernel
theorem dX7_cutsThatStay_11 : decode cX7_cutsThatStay 11 = .ok (.getfield 56, 3) := by decide +kernel
theorem dX7_cutsThatStay_14 : decode cX7_cutsThatStay 14 = .ok (.if_icmp .ge 34, 3) := by decide +kernel
theorem dX7_cutsThatStay_17 : decode cX7_cutsThatStay 17 = .ok (.lload_n 1, 1) := by decide +kernel
theorem dX7_cutsThatStay_18 : decode cX7_cutsThatStay 18 = .ok (.iload 4, 2) := by decide +kernel
theorem dX7_cutsThatStay_20 : decode cX7_cutsThatStay 20 = .ok (.aload_n 0, 1) := by decide +kernel
theorem dX7_cutsThatStay_21 : decode cX7_cutsThatStay 21 = .ok (.getfield 10, 3) := by decide +kernel
theorem dX7_cutsThatStay_24 : decode cX7_cutsThatStay 24 = .ok (.getfield 56, 3) := by decide +kernel
theorem dX7_cutsThatStay_27 : decode cX7_cutsThatStay 27 = .ok (.invokestatic 195, 3) := by decide +kernel
theorem dX7_cutsThatStay_30 : decode cX7_cutsThatStay 30 = .ok (.lload_n 1, 1) := by decide +kernel
theorem dX7_cutsThatStay_31 : decode cX7_cutsThatStay 31 = .ok (.lcmp, 1) := by decide +kernel
theorem dX7_cutsThatStay_32 : decode cX7_cutsThatStay 32 = .ok (.ifCond .ne 10, 3) := by decide +kernel
theorem dX7_cutsThatStay_35 : decode cX7_cutsThatStay 35 = .ok (.iload_n 3, 1) := by decide +kernel
theorem dX7_cutsThatStay_36 : decode cX7_cutsThatStay 36 = .ok (.iconst 1, 1) := by decide +kernel
theorem dX7_cutsThatStay_37 : decode cX7_cutsThatStay 37 = .ok (.iload 4, 2) := by decide +kernel
theorem dX7_cutsThatStay_39 : decode cX7_cutsThatStay 39 = .ok (.ishl, 1) := by decide +kernel
theorem dX7_cutsThatStay_40 : decode cX7_cutsThatStay 40 = .ok (.ior, 1) := by decide +kernel
theorem dX7_cutsThatStay_41 : decode cX7_cutsThatStay 41 = .ok (.istore_n 3, 1) := by decide +kernel
theorem dX7_cutsThatStay_42 : decode cX7_cutsThatStay 42 = .ok (.iinc 4 1, 3) := by decide +kernel
theorem dX7_cutsThatStay_45 : decode cX7_cutsThatStay 45 = .ok (.goto (-40), 3) := by decide +kernel
theorem dX7_cutsThatStay_48 : decode cX7_cutsThatStay 48 = .ok (.iload_n 3, 1) := by decide +kernel
theorem dX7_cutsThatStay_49 : decode cX7_cutsThatStay 49 = .ok (.ireturn, 1) := by decide +kernel
