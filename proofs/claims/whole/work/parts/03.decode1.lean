theorem dX0_flat_0 : decode cX0_flat 0 = .ok (.iconst 0, 1) := by decide +kernel
theorem dX0_flat_1 : decode cX0_flat 1 = .ok (.istore_n 1, 1) := by decide +kernel
theorem dX0_flat_2 : decode cX0_flat 2 = .ok (.iconst 0, 1) := by decide +kernel
theorem dX0_flat_3 : decode cX0_flat 3 = .ok (.istore_n 2, 1) := by decide +kernel
theorem dX0_flat_4 : decode cX0_flat 4 = .ok (.iload_n 2, 1) := by decide +kernel
theorem dX0_flat_5 : decode cX0_flat 5 = .ok (.iload_n 0, 1) := by decide +kernel
theorem dX0_flat_6 : decode cX0_flat 6 = .ok (.if_icmp .ge 21, 3) := by decide +kernel
theorem dX0_flat_9 : decode cX0_flat 9 = .ok (.iload_n 1, 1) := by decide +kernel
theorem dX0_flat_10 : decode cX0_flat 10 = .ok (.bipush 60, 2) := by decide +kernel
theorem dX0_flat_12 : decode cX0_flat 12 = .ok (.if_icmp .ge 15, 3) := by decide +kernel
theorem dX0_flat_15 : decode cX0_flat 15 = .ok (.iconst 2, 1) := by decide +kernel
theorem dX0_flat_16 : decode cX0_flat 16 = .ok (.iload_n 2, 1) := by decide +kernel
theorem dX0_flat_17 : decode cX0_flat 17 = .ok (.imul, 1) := by decide +kernel
theorem dX0_flat_18 : decode cX0_flat 18 = .ok (.iconst 1, 1) := by decide +kernel
theorem dX0_flat_19 : decode cX0_flat 19 = .ok (.iadd, 1) := by decide +kernel
theorem dX0_flat_20 : decode cX0_flat 20 = .ok (.istore_n 2, 1) := by decide +kernel
theorem dX0_flat_21 : decode cX0_flat 21 = .ok (.iinc 1 1, 3) := by decide +kernel
theorem dX0_flat_24 : decode cX0_flat 24 = .ok (.goto (-20), 3) := by decide +kernel
theorem dX0_flat_27 : decode cX0_flat 27 = .ok (.iload_n 1, 1) := by decide +kernel
theorem dX0_flat_28 : decode cX0_flat 28 = .ok (.ireturn, 1) := by decide +kernel
theorem dX0_tall_0 : decode cX0_tall 0 = .ok (.iconst 0, 1) := by decide +kernel
theorem dX0_tall_1 : decode cX0_tall 1 = .ok (.istore_n 1, 1) := by decide +kernel
theorem dX0_tall_2 : decode cX0_tall 2 = .ok (.iconst 1, 1) := by decide +kernel
theorem dX0_tall_3 : decode cX0_tall 3 = .ok (.istore_n 2, 1) := by decide +kernel
theorem dX0_tall_4 : decode cX0_tall 4 = .ok (.iconst 0, 1) := by decide +kernel
theorem dX0_tall_5 : decode cX0_tall 5 = .ok (.istore_n 3, 1) := by decide +kernel
theorem dX0_tall_6 : decode cX0_tall 6 = .ok (.iconst 1, 1) := by decide +kernel
theorem dX0_tall_7 : decode cX0_tall 7 = .ok (.istore 4, 2) := by decide +kernel
theorem dX0_tall_9 : decode cX0_tall 9 = .ok (.iload_n 1, 1) := by decide +kernel
theorem dX0_tall_10 : decode cX0_tall 10 = .ok (.bipush 60, 2) := by decide +kernel
theorem dX0_tall_12 : decode cX0_tall 12 = .ok (.if_icmp .ge 33, 3) := by decide +kernel
theorem dX0_tall_15 : decode cX0_tall 15 = .ok (.iload_n 2, 1) := by decide +kernel
theorem dX0_tall_16 : decode cX0_tall 16 = .ok (.iload_n 0, 1) := by decide +kernel
theorem dX0_tall_17 : decode cX0_tall 17 = .ok (.if_icmp .gt 28, 3) := by decide +kernel
theorem dX0_tall_20 : decode cX0_tall 20 = .ok (.iinc 1 1, 3) := by decide +kernel
theorem dX0_tall_23 : decode cX0_tall 23 = .ok (.iload_n 2, 1) := by decide +kernel
theorem dX0_tall_24 : decode cX0_tall 24 = .ok (.iconst 1, 1) := by decide +kernel
theorem dX0_tall_25 : decode cX0_tall 25 = .ok (.iload_n 3, 1) := by decide +kernel
theorem dX0_tall_26 : decode cX0_tall 26 = .ok (.iadd, 1) := by decide +kernel
theorem dX0_tall_27 : decode cX0_tall 27 = .ok (.iadd, 1) := by decide +kernel
theorem dX0_tall_28 : decode cX0_tall 28 = .ok (.istore_n 2, 1) := by decide +kernel
theorem dX0_tall_29 : decode cX0_tall 29 = .ok (.iload_n 3, 1) := by decide +kernel
theorem dX0_tall_30 : decode cX0_tall 30 = .ok (.invokestatic 9, 3) := by decide +kernel
theorem dX0_tall_33 : decode cX0_tall 33 = .ok (.istore 5, 2) := by decide +kernel
theorem dX0_tall_35 : decode cX0_tall 35 = .ok (.iload 4, 2) := by decide +kernel
theorem dX0_tall_37 : decode cX0_tall 37 = .ok (.istore_n 3, 1) := by decide +kernel
theorem dX0_tall_38 : decode cX0_tall 38 = .ok (.iload 5, 2) := by decide +kernel
theorem dX0_tall_40 : decode cX0_tall 40 = .ok (.istore 4, 2) := by decide +kernel
theorem dX0_tall_42 : decode cX0_tall 42 = .ok (.goto (-33), 3) := by decide +kernel
theorem dX0_tall_45 : decode cX0_tall 45 = .ok (.iload_n 1, 1) := by decide +kernel
theorem dX0_tall_46 : decode cX0_tall 46 = .ok (.ireturn, 1) := by decide +kernel
theorem dX0_fewestOfRank_0 : decode cX0_fewestOfRank 0 = .ok (.iload_n 0, 1) := by decide +kernel
theorem dX0_fewestOfRank_1 : decode cX0_fewestOfRank 1 = .ok (.ifCond .ne 7, 3) := by decide +kernel
theorem dX0_fewestOfRank_4 : decode cX0_fewestOfRank 4 = .ok (.iconst 2, 1) := by decide +kernel
theorem dX0_fewestOfRank_5 : decode cX0_fewestOfRank 5 = .ok (.goto 8, 3) := by decide +kernel
theorem dX0_fewestOfRank_8 : decode cX0_fewestOfRank 8 = .ok (.iconst 2, 1) := by decide +kernel
theorem dX0_fewestOfRank_9 : decode cX0_fewestOfRank 9 = .ok (.iload_n 0, 1) := by decide +kernel
theorem dX0_fewestOfRank_10 : decode cX0_fewestOfRank 10 = .ok (.imul, 1) := by decide +kernel
theorem dX0_fewestOfRank_11 : decode cX0_fewestOfRank 11 = .ok (.iconst 1, 1) := by decide +kernel
theorem dX0_fewestOfRank_12 : decode cX0_fewestOfRank 12 = .ok (.iadd, 1) := by decide +kernel
theorem dX0_fewestOfRank_13 : decode cX0_fewestOfRank 13 = .ok (.ireturn, 1) := by decide +kernel
theorem dX1_init_0 : decode cX1_init 0 = .ok (.aload_n 0, 1) := by decide +kernel
theorem dX1_init_1 : decode cX1_init 1 = .ok (.invokespecial 1, 3) := by decide +kernel
theorem dX1_init_4 : decode cX1_init 4 = .ok (.aload_n 0, 1) := by decide +kernel
theorem dX1_init_5 : decode cX1_init 5 = .ok (.iconst 0, 1) := by decide +kernel
theorem dX1_init_6 : decode cX1_init 6 = .ok (.putfield 7, 3) := by decide +kernel
theorem dX1_init_9 : decode cX1_init 9 = .ok (.aload_n 0, 1) := by decide +kernel
theorem dX1_init_10 : decode cX1_init 10 = .ok (.iconst 0, 1) := by decide +kernel
theorem dX1_init_11 : decode cX1_init 11 = .ok (.putfield 13, 3) := by decide +kernel
theorem dX1_init_14 : decode cX1_init 14 = .ok (.aload_n 0, 1) := by decide +kernel
theorem dX1_init_15 : decode cX1_init 15 = .ok (.iconst 0, 1) := by decide +kernel
theorem dX1_init_16 : decode cX1_init 16 = .ok (.putfield 16, 3) := by decide +kernel
theorem dX1_init_19 : decode cX1_init 19 = .ok (.return_, 1) := by decide +kernel
theorem dX1_clear_0 : decode cX1_clear 0 = .ok (.aload_n 0, 1) := by decide +kernel
theorem dX1_clear_1 : decode cX1_clear 1 = .ok (.iconst 0, 1) := by decide +kernel
theorem dX1_clear_2 : decode cX1_clear 2 = .ok (.putfield 7, 3) := by decide +kernel
theorem dX1_clear_5 : decode cX1_clear 5 = .ok (.aload_n 0, 1) := by decide +kernel
theorem dX1_clear_6 : decode cX1_clear 6 = .ok (.iconst 0, 1) := by decide +kernel
theorem dX1_clear_7 : decode cX1_clear 7 = .ok (.putfield 13, 3) := by decide +kernel
theorem dX1_clear_10 : decode cX1_clear 10 = .ok (.aload_n 0, 1) := by decide +kernel
theorem dX1_clear_11 : decode cX1_clear 11 = .ok (.iconst 0, 1) := by decide +kernel
theorem dX1_clear_12 : decode cX1_clear 12 = .ok (.putfield 16, 3) := by decide +kernel
theorem dX1_clear_15 : decode cX1_clear 15 = .ok (.return_, 1) := by decide +kernel
theorem dX1_copyFrom_0 : decode cX1_copyFrom 0 = .ok (.aload_n 0, 1) := by decide +kernel
theorem dX1_copyFrom_1 : decode cX1_copyFrom 1 = .ok (.aload_n 1, 1) := by decide +kernel
theorem dX1_copyFrom_2 : decode cX1_copyFrom 2 = .ok (.getfield 7, 3) := by decide +kernel
theorem dX1_copyFrom_5 : decode cX1_copyFrom 5 = .ok (.putfield 7, 3) := by decide +kernel
theorem dX1_copyFrom_8 : decode cX1_copyFrom 8 = .ok (.aload_n 0, 1) := by decide +kernel
theorem dX1_copyFrom_9 : decode cX1_copyFrom 9 = .ok (.aload_n 1, 1) := by decide +kernel
theorem dX1_copyFrom_10 : decode cX1_copyFrom 10 = .ok (.getfield 13, 3) := by decide +kernel
theorem dX1_copyFrom_13 : decode cX1_copyFrom 13 = .ok (.putfield 13, 3) := by decide +kernel
theorem dX1_copyFrom_16 : decode cX1_copyFrom 16 = .ok (.aload_n 0, 1) := by decide +kernel
theorem dX1_copyFrom_17 : decode cX1_copyFrom 17 = .ok (.aload_n 1, 1) := by decide +kernel
theorem dX1_copyFrom_18 : decode cX1_copyFrom 18 = .ok (.getfield 16, 3) := by decide +kernel
theorem dX1_copyFrom_21 : decode cX1_copyFrom 21 = .ok (.putfield 16, 3) := by decide +kernel
theorem dX1_copyFrom_24 : decode cX1_copyFrom 24 = .ok (.return_, 1) := by decide +kernel
theorem dX1_add_0 : decode cX1_add 0 = .ok (.aload_n 0, 1) := by decide +kernel
theorem dX1_add_1 : decode cX1_add 1 = .ok (.dup, 1) := by decide +kernel
theorem dX1_add_2 : decode cX1_add 2 = .ok (.getfield 7, 3) := by decide +kernel
theorem dX1_add_5 : decode cX1_add 5 = .ok (.aload_n 1, 1) := by decide +kernel
theorem dX1_add_6 : decode cX1_add 6 = .ok (.getfield 7, 3) := by decide +kernel
theorem dX1_add_9 : decode cX1_add 9 = .ok (.iadd, 1) := by decide +kernel
theorem dX1_add_10 : decode cX1_add 10 = .ok (.putfield 7, 3) := by decide +kernel
theorem dX1_add_13 : decode cX1_add 13 = .ok (.aload_n 0, 1) := by decide +kernel
theorem dX1_add_14 : decode cX1_add 14 = .ok (.dup, 1) := by decide +kernel
theorem dX1_add_15 : decode cX1_add 15 = .ok (.getfield 13, 3) := by decide +kernel
theorem dX1_add_18 : decode cX1_add 18 = .ok (.aload_n 1, 1) := by decide +kernel
theorem dX1_add_19 : decode cX1_add 19 = .ok (.getfield 13, 3) := by decide +kernel
theorem dX1_add_22 : decode cX1_add 22 = .ok (.iadd, 1) := by decide +kernel
theorem dX1_add_23 : decode cX1_add 23 = .ok (.putfield 13, 3) := by decide +kernel
theorem dX1_add_26 : decode cX1_add 26 = .ok (.aload_n 0, 1) := by decide +kernel
theorem dX1_add_27 : decode cX1_add 27 = .ok (.dup, 1) := by decide +kernel
theorem dX1_add_28 : decode cX1_add 28 = .ok (.getfield 16, 3) := by decide +kernel
theorem dX1_add_31 : decode cX1_add 31 = .ok (.aload_n 1, 1) := by decide +kernel
theorem dX1_add_32 : decode cX1_add 32 = .ok (.getfield 16, 3) := by decide +kernel
theorem dX1_add_35 : decode cX1_add 35 = .ok (.iadd, 1) := by decide +kernel
theorem dX1_add_36 : decode cX1_add 36 = .ok (.putfield 16, 3) := by decide +kernel
theorem dX1_add_39 : decode cX1_add 39 = .ok (.return_, 1) := by decide +kernel
theorem dX1_together_0 : decode cX1_together 0 = .ok (.aload_n 0, 1) := by decide +kernel
theorem dX1_together_1 : decode cX1_together 1 = .ok (.getfield 7, 3) := by decide +kernel
theorem dX1_together_4 : decode cX1_together 4 = .ok (.aload_n 0, 1) := by decide +kernel
theorem dX1_together_5 : decode cX1_together 5 = .ok (.getfield 13, 3) := by decide +kernel
theorem dX1_together_8 : decode cX1_together 8 = .ok (.iadd, 1) := by decide +kernel
theorem dX1_together_9 : decode cX1_together 9 = .ok (.aload_n 0, 1) := by decide +kernel
theorem dX1_together_10 : decode cX1_together 10 = .ok (.getfield 16, 3) := by decide +kernel
theorem dX1_together_13 : decode cX1_together 13 = .ok (.iadd, 1) := by decide +kernel
theorem dX1_together_14 : decode cX1_together 14 = .ok (.ireturn, 1) := by decide +kernel
theorem dX2_init_0 : decode cX2_init 0 = .ok (.aload_n 0, 1) := by decide +kernel
theorem dX2_init_1 : decode cX2_init 1 = .ok (.invokespecial 1, 3) := by decide +kernel
theorem dX2_init_4 : decode cX2_init 4 = .ok (.aload_n 0, 1) := by decide +kernel
theorem dX2_init_5 : decode cX2_init 5 = .ok (.iconst 0, 1) := by decide +kernel
theorem dX2_init_6 : decode cX2_init 6 = .ok (.putfield 7, 3) := by decide +kernel
theorem dX2_init_9 : decode cX2_init 9 = .ok (.return_, 1) := by decide +kernel
theorem dX2_next_0 : decode cX2_next 0 = .ok (.aload_n 0, 1) := by decide +kernel
theorem dX2_next_1 : decode cX2_next 1 = .ok (.aload_n 0, 1) := by decide +kernel
theorem dX2_next_2 : decode cX2_next 2 = .ok (.getfield 7, 3) := by decide +kernel
theorem dX2_next_5 : decode cX2_next 5 = .ok (.i2l, 1) := by decide +kernel
theorem dX2_next_6 : decode cX2_next 6 = .ok (.ldc2_w 13, 3) := by decide +kernel
theorem dX2_next_9 : decode cX2_next 9 = .ok (.lmul, 1) := by decide +kernel
theorem dX2_next_10 : decode cX2_next 10 = .ok (.ldc2_w 15, 3) := by decide +kernel
theorem dX2_next_13 : decode cX2_next 13 = .ok (.ladd, 1) := by decide +kernel
theorem dX2_next_14 : decode cX2_next 14 = .ok (.ldc2_w 17, 3) := by decide +kernel
theorem dX2_next_17 : decode cX2_next 17 = .ok (.land, 1) := by decide +kernel
theorem dX2_next_18 : decode cX2_next 18 = .ok (.l2i, 1) := by decide +kernel
theorem dX2_next_19 : decode cX2_next 19 = .ok (.putfield 7, 3) := by decide +kernel
theorem dX2_next_22 : decode cX2_next 22 = .ok (.iload_n 1, 1) := by decide +kernel
theorem dX2_next_23 : decode cX2_next 23 = .ok (.iconst 1, 1) := by decide +kernel
theorem dX2_next_24 : decode cX2_next 24 = .ok (.if_icmp .ge 7, 3) := by decide +kernel
theorem dX2_next_27 : decode cX2_next 27 = .ok (.iconst 0, 1) := by decide +kernel
theorem dX2_next_28 : decode cX2_next 28 = .ok (.goto 12, 3) := by decide +kernel
theorem dX2_next_31 : decode cX2_next 31 = .ok (.aload_n 0, 1) := by decide +kernel
theorem dX2_next_32 : decode cX2_next 32 = .ok (.getfield 7, 3) := by decide +kernel
theorem dX2_next_35 : decode cX2_next 35 = .ok (.ldc 19, 2) := by decide +kernel
theorem dX2_next_37 : decode cX2_next 37 = .ok (.idiv, 1) := by decide +kernel
theorem dX2_next_38 : decode cX2_next 38 = .ok (.iload_n 1, 1) := by decide +kernel
theorem dX2_next_39 : decode cX2_next 39 = .ok (.irem, 1) := by decide +kernel
theorem dX2_next_40 : decode cX2_next 40 = .ok (.ireturn, 1) := by decide +kernel
theorem dX3_init_0 : decode cX3_init 0 = .ok (.aload_n 0, 1) := by decide +kernel
theorem dX3_init_1 : decode cX3_init 1 = .ok (.invokespecial 1, 3) := by decide +kernel
theorem dX3_init_4 : decode cX3_init 4 = .ok (.aload_n 0, 1) := by decide +kernel
theorem dX3_init_5 : decode cX3_init 5 = .ok (.new 7, 3) := by decide +kernel
theorem dX3_init_8 : decode cX3_init 8 = .ok (.dup, 1) := by decide +kernel
theorem dX3_init_9 : decode cX3_init 9 = .ok (.invokespecial 9, 3) := by decide +kernel
theorem dX3_init_12 : decode cX3_init 12 = .ok (.putfield 10, 3) := by decide +kernel
theorem dX3_init_15 : decode cX3_init 15 = .ok (.aload_n 0, 1) := by decide +kernel
theorem dX3_init_16 : decode cX3_init 16 = .ok (.iconst 0, 1) := by decide +kernel
theorem dX3_init_17 : decode cX3_init 17 = .ok (.putfield 16, 3) := by decide +kernel
theorem dX3_init_20 : decode cX3_init 20 = .ok (.aload_n 0, 1) := by decide +kernel
theorem dX3_init_21 : decode cX3_init 21 = .ok (.iconst 0, 1) := by decide +kernel
theorem dX3_init_22 : decode cX3_init 22 = .ok (.putfield 20, 3) := by decide +kernel
theorem dX3_init_25 : decode cX3_init 25 = .ok (.return_, 1) := by decide +kernel
theorem dX4_init_0 : decode cX4_init 0 = .ok (.aload_n 0, 1) := by decide +kernel
theorem dX4_init_1 : decode cX4_init 1 = .ok (.invokespecial 3, 3) := by decide +kernel
theorem dX4_init_4 : decode cX4_init 4 = .ok (.aload_n 0, 1) := by decide +kernel
theorem dX4_init_5 : decode cX4_init 5 = .ok (.bipush 60, 2) := by decide +kernel
theorem dX4_init_7 : decode cX4_init 7 = .ok (.newarray .int, 2) := by decide +kernel
theorem dX4_init_9 : decode cX4_init 9 = .ok (.putfield 9, 3) := by decide +kernel
theorem dX4_init_12 : decode cX4_init 12 = .ok (.aload_n 0, 1) := by decide +kernel
theorem dX4_init_13 : decode cX4_init 13 = .ok (.bipush 60, 2) := by decide +kernel
theorem dX4_init_15 : decode cX4_init 15 = .ok (.newarray .int, 2) := by decide +kernel
theorem dX4_init_17 : decode cX4_init 17 = .ok (.putfield 15, 3) := by decide +kernel
theorem dX4_init_20 : decode cX4_init 20 = .ok (.aload_n 0, 1) := by decide +kernel
theorem dX4_init_21 : decode cX4_init 21 = .ok (.bipush 60, 2) := by decide +kernel
theorem dX4_init_23 : decode cX4_init 23 = .ok (.newarray .int, 2) := by decide +kernel
theorem dX4_init_25 : decode cX4_init 25 = .ok (.putfield 18, 3) := by decide +kernel
theorem dX4_init_28 : decode cX4_init 28 = .ok (.aload_n 0, 1) := by decide +kernel
theorem dX4_init_29 : decode cX4_init 29 = .ok (.bipush 60, 2) := by decide +kernel
theorem dX4_init_31 : decode cX4_init 31 = .ok (.newarray .int, 2) := by decide +kernel
theorem dX4_init_33 : decode cX4_init 33 = .ok (.putfield 21, 3) := by decide +kernel
theorem dX4_init_36 : decode cX4_init 36 = .ok (.aload_n 0, 1) := by decide +kernel
theorem dX4_init_37 : decode cX4_init 37 = .ok (.bipush 60, 2) := by decide +kernel
theorem dX4_init_39 : decode cX4_init 39 = .ok (.newarray .int, 2) := by decide +kernel
theorem dX4_init_41 : decode cX4_init 41 = .ok (.putfield 24, 3) := by decide +kernel
theorem dX4_init_44 : decode cX4_init 44 = .ok (.aload_n 0, 1) := by decide +kernel
theorem dX4_init_45 : decode cX4_init 45 = .ok (.bipush 60, 2) := by decide +kernel
theorem dX4_init_47 : decode cX4_init 47 = .ok (.newarray .int, 2) := by decide +kernel
theorem dX4_init_49 : decode cX4_init 49 = .ok (.putfield 27, 3) := by decide +kernel
theorem dX4_init_52 : decode cX4_init 52 = .ok (.aload_n 0, 1) := by decide +kernel
theorem dX4_init_53 : decode cX4_init 53 = .ok (.iconst (-1), 1) := by decide +kernel
theorem dX4_init_54 : decode cX4_init 54 = .ok (.putfield 30, 3) := by decide +kernel
theorem dX4_init_57 : decode cX4_init 57 = .ok (.aload_n 0, 1) := by decide +kernel
theorem dX4_init_58 : decode cX4_init 58 = .ok (.iconst 0, 1) := by decide +kernel
theorem dX4_init_59 : decode cX4_init 59 = .ok (.putfield 34, 3) := by decide +kernel
theorem dX4_init_62 : decode cX4_init 62 = .ok (.aload_n 0, 1) := by decide +kernel
theorem dX4_init_63 : decode cX4_init 63 = .ok (.getfield 9, 3) := by decide +kernel
theorem dX4_init_66 : decode cX4_init 66 = .ok (.iconst (-1), 1) := by decide +kernel
theorem dX4_init_67 : decode cX4_init 67 = .ok (.invokestatic 37, 3) := by decide +kernel
theorem dX4_init_70 : decode cX4_init 70 = .ok (.return_, 1) := by decide +kernel
theorem dX4_clear_0 : decode cX4_clear 0 = .ok (.aload_n 0, 1) := by decide +kernel
theorem dX4_clear_1 : decode cX4_clear 1 = .ok (.getfield 9, 3) := by decide +kernel
theorem dX4_clear_4 : decode cX4_clear 4 = .ok (.iconst (-1), 1) := by decide +kernel
theorem dX4_clear_5 : decode cX4_clear 5 = .ok (.invokestatic 37, 3) := by decide +kernel
theorem dX4_clear_8 : decode cX4_clear 8 = .ok (.aload_n 0, 1) := by decide +kernel
theorem dX4_clear_9 : decode cX4_clear 9 = .ok (.iconst (-1), 1) := by decide +kernel
theorem dX4_clear_10 : decode cX4_clear 10 = .ok (.putfield 30, 3) := by decide +kernel
theorem dX4_clear_13 : decode cX4_clear 13 = .ok (.aload_n 0, 1) := by decide +kernel
theorem dX4_clear_14 : decode cX4_clear 14 = .ok (.iconst 0, 1) := by decide +kernel
theorem dX4_clear_15 : decode cX4_clear 15 = .ok (.putfield 34, 3) := by decide +kernel
theorem dX4_clear_18 : decode cX4_clear 18 = .ok (.return_, 1) := by decide +kernel
theorem dX4_copyFrom_0 : decode cX4_copyFrom 0 = .ok (.aload_n 1, 1) := by decide +kernel
theorem dX4_copyFrom_1 : decode cX4_copyFrom 1 = .ok (.getfield 9, 3) := by decide +kernel
theorem dX4_copyFrom_4 : decode cX4_copyFrom 4 = .ok (.iconst 0, 1) := by decide +kernel
theorem dX4_copyFrom_5 : decode cX4_copyFrom 5 = .ok (.aload_n 0, 1) := by decide +kernel
theorem dX4_copyFrom_6 : decode cX4_copyFrom 6 = .ok (.getfield 9, 3) := by decide +kernel
theorem dX4_copyFrom_9 : decode cX4_copyFrom 9 = .ok (.iconst 0, 1) := by decide +kernel
theorem dX4_copyFrom_10 : decode cX4_copyFrom 10 = .ok (.bipush 60, 2) := by decide +kernel
theorem dX4_copyFrom_12 : decode cX4_copyFrom 12 = .ok (.invokestatic 43, 3) := by decide +kernel
theorem dX4_copyFrom_15 : decode cX4_copyFrom 15 = .ok (.aload_n 1, 1) := by decide +kernel
theorem dX4_copyFrom_16 : decode cX4_copyFrom 16 = .ok (.getfield 15, 3) := by decide +kernel
theorem dX4_copyFrom_19 : decode cX4_copyFrom 19 = .ok (.iconst 0, 1) := by decide +kernel
theorem dX4_copyFrom_20 : decode cX4_copyFrom 20 = .ok (.aload_n 0, 1) := by decide +kernel
theorem dX4_copyFrom_21 : decode cX4_copyFrom 21 = .ok (.getfield 15, 3) := by decide +kernel
theorem dX4_copyFrom_24 : decode cX4_copyFrom 24 = .ok (.iconst 0, 1) := by decide +kernel
theorem dX4_copyFrom_25 : decode cX4_copyFrom 25 = .ok (.bipush 60, 2) := by decide +kernel
theorem dX4_copyFrom_27 : decode cX4_copyFrom 27 = .ok (.invokestatic 43, 3) := by decide +kernel
theorem dX4_copyFrom_30 : decode cX4_copyFrom 30 = .ok (.aload_n 1, 1) := by decide +kernel
theorem dX4_copyFrom_31 : decode cX4_copyFrom 31 = .ok (.getfield 18, 3) := by decide +kernel
theorem dX4_copyFrom_34 : decode cX4_copyFrom 34 = .ok (.iconst 0, 1) := by decide +kernel
theorem dX4_copyFrom_35 : decode cX4_copyFrom 35 = .ok (.aload_n 0, 1) := by decide +kernel
theorem dX4_copyFrom_36 : decode cX4_copyFrom 36 = .ok (.getfield 18, 3) := by decide +kernel
theorem dX4_copyFrom_39 : decode cX4_copyFrom 39 = .ok (.iconst 0, 1) := by decide +kernel
theorem dX4_copyFrom_40 : decode cX4_copyFrom 40 = .ok (.bipush 60, 2) := by decide +kernel
theorem dX4_copyFrom_42 : decode cX4_copyFrom 42 = .ok (.invokestatic 43, 3) := by decide +kernel
theorem dX4_copyFrom_45 : decode cX4_copyFrom 45 = .ok (.aload_n 1, 1) := by decide +kernel
theorem dX4_copyFrom_46 : decode cX4_copyFrom 46 = .ok (.getfield 21, 3) := by decide +kernel
theorem dX4_copyFrom_49 : decode cX4_copyFrom 49 = .ok (.iconst 0, 1) := by decide +kernel
theorem dX4_copyFrom_50 : decode cX4_copyFrom 50 = .ok (.aload_n 0, 1) := by decide +kernel
theorem dX4_copyFrom_51 : decode cX4_copyFrom 51 = .ok (.getfield 21, 3) := by decide +kernel
theorem dX4_copyFrom_54 : decode cX4_copyFrom 54 = .ok (.iconst 0, 1) := by decide +kernel
theorem dX4_copyFrom_55 : decode cX4_copyFrom 55 = .ok (.bipush 60, 2) := by decide +kernel
theorem dX4_copyFrom_57 : decode cX4_copyFrom 57 = .ok (.invokestatic 43, 3) := by decide +kernel
theorem dX4_copyFrom_60 : decode cX4_copyFrom 60 = .ok (.aload_n 1, 1) := by decide +kernel
theorem dX4_copyFrom_61 : decode cX4_copyFrom 61 = .ok (.getfield 24, 3) := by decide +kernel
theorem dX4_copyFrom_64 : decode cX4_copyFrom 64 = .ok (.iconst 0, 1) := by decide +kernel
theorem dX4_copyFrom_65 : decode cX4_copyFrom 65 = .ok (.aload_n 0, 1) := by decide +kernel
theorem dX4_copyFrom_66 : decode cX4_copyFrom 66 = .ok (.getfield 24, 3) := by decide +kernel
theorem dX4_copyFrom_69 : decode cX4_copyFrom 69 = .ok (.iconst 0, 1) := by decide +kernel
theorem dX4_copyFrom_70 : decode cX4_copyFrom 70 = .ok (.bipush 60, 2) := by decide +kernel
theorem dX4_copyFrom_72 : decode cX4_copyFrom 72 = .ok (.invokestatic 43, 3) := by decide +kernel
theorem dX4_copyFrom_75 : decode cX4_copyFrom 75 = .ok (.aload_n 1, 1) := by decide +kernel
theorem dX4_copyFrom_76 : decode cX4_copyFrom 76 = .ok (.getfield 27, 3) := by decide +kernel
theorem dX4_copyFrom_79 : decode cX4_copyFrom 79 = .ok (.iconst 0, 1) := by decide +kernel
theorem dX4_copyFrom_80 : decode cX4_copyFrom 80 = .ok (.aload_n 0, 1) := by decide +kernel
theorem dX4_copyFrom_81 : decode cX4_copyFrom 81 = .ok (.getfield 27, 3) := by decide +kernel
theorem dX4_copyFrom_84 : decode cX4_copyFrom 84 = .ok (.iconst 0, 1) := by decide +kernel
theorem dX4_copyFrom_85 : decode cX4_copyFrom 85 = .ok (.bipush 60, 2) := by decide +kernel
theorem dX4_copyFrom_87 : decode cX4_copyFrom 87 = .ok (.invokestatic 43, 3) := by decide +kernel
theorem dX4_copyFrom_90 : decode cX4_copyFrom 90 = .ok (.aload_n 0, 1) := by decide +kernel
theorem dX4_copyFrom_91 : decode cX4_copyFrom 91 = .ok (.aload_n 1, 1) := by decide +kernel
theorem dX4_copyFrom_92 : decode cX4_copyFrom 92 = .ok (.getfield 30, 3) := by decide +kernel
theorem dX4_copyFrom_95 : decode cX4_copyFrom 95 = .ok (.putfield 30, 3) := by decide +kernel
theorem dX4_copyFrom_98 : decode cX4_copyFrom 98 = .ok (.aload_n 0, 1) := by decide +kernel
theorem dX4_copyFrom_99 : decode cX4_copyFrom 99 = .ok (.aload_n 1, 1) := by decide +kernel
theorem dX4_copyFrom_100 : decode cX4_copyFrom 100 = .ok (.getfield 34, 3) := by decide +kernel
theorem dX4_copyFrom_103 : decode cX4_copyFrom 103 = .ok (.putfield 34, 3) := by decide +kernel
theorem dX4_copyFrom_106 : decode cX4_copyFrom 106 = .ok (.return_, 1) := by decide +kernel
theorem dX4_keyOf_0 : decode cX4_keyOf 0 = .ok (.iload_n 1, 1) := by decide +kernel
theorem dX4_keyOf_1 : decode cX4_keyOf 1 = .ok (.ifCond .lt 9, 3) := by decide +kernel
theorem dX4_keyOf_4 : decode cX4_keyOf 4 = .ok (.iload_n 1, 1) := by decide +kernel
theorem dX4_keyOf_5 : decode cX4_keyOf 5 = .ok (.bipush 60, 2) := by decide +kernel
theorem dX4_keyOf_7 : decode cX4_keyOf 7 = .ok (.if_icmp .lt 7, 3) := by decide +kernel
theorem dX4_keyOf_10 : decode cX4_keyOf 10 = .ok (.iconst (-1), 1) := by decide +kernel
theorem dX4_keyOf_11 : decode cX4_keyOf 11 = .ok (.goto 9, 3) := by decide +kernel
theorem dX4_keyOf_14 : decode cX4_keyOf 14 = .ok (.aload_n 0, 1) := by decide +kernel
theorem dX4_keyOf_15 : decode cX4_keyOf 15 = .ok (.getfield 9, 3) := by decide +kernel
theorem dX4_keyOf_18 : decode cX4_keyOf 18 = .ok (.iload_n 1, 1) := by decide +kernel
theorem dX4_keyOf_19 : decode cX4_keyOf 19 = .ok (.iaload, 1) := by decide +kernel
theorem dX4_keyOf_20 : decode cX4_keyOf 20 = .ok (.ireturn, 1) := by decide +kernel
theorem dX4_worthOf_0 : decode cX4_worthOf 0 = .ok (.iload_n 1, 1) := by decide +kernel
theorem dX4_worthOf_1 : decode cX4_worthOf 1 = .ok (.ifCond .lt 9, 3) := by decide +kernel
theorem dX4_worthOf_4 : decode cX4_worthOf 4 = .ok (.iload_n 1, 1) := by decide +kernel
theorem dX4_worthOf_5 : decode cX4_worthOf 5 = .ok (.bipush 60, 2) := by decide +kernel
theorem dX4_worthOf_7 : decode cX4_worthOf 7 = .ok (.if_icmp .lt 7, 3) := by decide +kernel
theorem dX4_worthOf_10 : decode cX4_worthOf 10 = .ok (.iconst 0, 1) := by decide +kernel
theorem dX4_worthOf_11 : decode cX4_worthOf 11 = .ok (.goto 9, 3) := by decide +kernel
theorem dX4_worthOf_14 : decode cX4_worthOf 14 = .ok (.aload_n 0, 1) := by decide +kernel
theorem dX4_worthOf_15 : decode cX4_worthOf 15 = .ok (.getfield 15, 3) := by decide +kernel
theorem dX4_worthOf_18 : decode cX4_worthOf 18 = .ok (.iload_n 1, 1) := by decide +kernel
theorem dX4_worthOf_19 : decode cX4_worthOf 19 = .ok (.iaload, 1) := by decide +kernel
theorem dX4_worthOf_20 : decode cX4_worthOf 20 = .ok (.ireturn, 1) := by decide +kernel
theorem dX4_rankOf_0 : decode cX4_rankOf 0 = .ok (.iload_n 1, 1) := by decide +kernel
theorem dX4_rankOf_1 : decode cX4_rankOf 1 = .ok (.ifCond .lt 9, 3) := by decide +kernel
theorem dX4_rankOf_4 : decode cX4_rankOf 4 = .ok (.iload_n 1, 1) := by decide +kernel
theorem dX4_rankOf_5 : decode cX4_rankOf 5 = .ok (.bipush 60, 2) := by decide +kernel
theorem dX4_rankOf_7 : decode cX4_rankOf 7 = .ok (.if_icmp .lt 7, 3) := by decide +kernel
theorem dX4_rankOf_10 : decode cX4_rankOf 10 = .ok (.iconst (-1), 1) := by decide +kernel
theorem dX4_rankOf_11 : decode cX4_rankOf 11 = .ok (.goto 9, 3) := by decide +kernel
theorem dX4_rankOf_14 : decode cX4_rankOf 14 = .ok (.aload_n 0, 1) := by decide +kernel
theorem dX4_rankOf_15 : decode cX4_rankOf 15 = .ok (.getfield 18, 3) := by decide +kernel
theorem dX4_rankOf_18 : decode cX4_rankOf 18 = .ok (.iload_n 1, 1) := by decide +kernel
theorem dX4_rankOf_19 : decode cX4_rankOf 19 = .ok (.iaload, 1) := by decide +kernel
theorem dX4_rankOf_20 : decode cX4_rankOf 20 = .ok (.ireturn, 1) := by decide +kernel
theorem dX4_leftOf_0 : decode cX4_leftOf 0 = .ok (.iload_n 1, 1) := by decide +kernel
theorem dX4_leftOf_1 : decode cX4_leftOf 1 = .ok (.ifCond .lt 9, 3) := by decide +kernel
theorem dX4_leftOf_4 : decode cX4_leftOf 4 = .ok (.iload_n 1, 1) := by decide +kernel
theorem dX4_leftOf_5 : decode cX4_leftOf 5 = .ok (.bipush 60, 2) := by decide +kernel
theorem dX4_leftOf_7 : decode cX4_leftOf 7 = .ok (.if_icmp .lt 7, 3) := by decide +kernel
theorem dX4_leftOf_10 : decode cX4_leftOf 10 = .ok (.iconst (-1), 1) := by decide +kernel
theorem dX4_leftOf_11 : decode cX4_leftOf 11 = .ok (.goto 9, 3) := by decide +kernel
theorem dX4_leftOf_14 : decode cX4_leftOf 14 = .ok (.aload_n 0, 1) := by decide +kernel
theorem dX4_leftOf_15 : decode cX4_leftOf 15 = .ok (.getfield 21, 3) := by decide +kernel
theorem dX4_leftOf_18 : decode cX4_leftOf 18 = .ok (.iload_n 1, 1) := by decide +kernel
theorem dX4_leftOf_19 : decode cX4_leftOf 19 = .ok (.iaload, 1) := by decide +kernel
theorem dX4_leftOf_20 : decode cX4_leftOf 20 = .ok (.ireturn, 1) := by decide +kernel
theorem dX4_rightOf_0 : decode cX4_rightOf 0 = .ok (.iload_n 1, 1) := by decide +kernel
theorem dX4_rightOf_1 : decode cX4_rightOf 1 = .ok (.ifCond .lt 9, 3) := by decide +kernel
theorem dX4_rightOf_4 : decode cX4_rightOf 4 = .ok (.iload_n 1, 1) := by decide +kernel
theorem dX4_rightOf_5 : decode cX4_rightOf 5 = .ok (.bipush 60, 2) := by decide +kernel
theorem dX4_rightOf_7 : decode cX4_rightOf 7 = .ok (.if_icmp .lt 7, 3) := by decide +kernel
theorem dX4_rightOf_10 : decode cX4_rightOf 10 = .ok (.iconst (-1), 1) := by decide +kernel
theorem dX4_rightOf_11 : decode cX4_rightOf 11 = .ok (.goto 9, 3) := by decide +kernel
theorem dX4_rightOf_14 : decode cX4_rightOf 14 = .ok (.aload_n 0, 1) := by decide +kernel
theorem dX4_rightOf_15 : decode cX4_rightOf 15 = .ok (.getfield 24, 3) := by decide +kernel
theorem dX4_rightOf_18 : decode cX4_rightOf 18 = .ok (.iload_n 1, 1) := by decide +kernel
theorem dX4_rightOf_19 : decode cX4_rightOf 19 = .ok (.iaload, 1) := by decide +kernel
theorem dX4_rightOf_20 : decode cX4_rightOf 20 = .ok (.ireturn, 1) := by decide +kernel
theorem dX4_childOf_0 : decode cX4_childOf 0 = .ok (.iload_n 1, 1) := by decide +kernel
theorem dX4_childOf_1 : decode cX4_childOf 1 = .ok (.ifCond .lt 9, 3) := by decide +kernel
theorem dX4_childOf_4 : decode cX4_childOf 4 = .ok (.iload_n 1, 1) := by decide +kernel
theorem dX4_childOf_5 : decode cX4_childOf 5 = .ok (.bipush 60, 2) := by decide +kernel
theorem dX4_childOf_7 : decode cX4_childOf 7 = .ok (.if_icmp .lt 5, 3) := by decide +kernel
theorem dX4_childOf_10 : decode cX4_childOf 10 = .ok (.iconst (-1), 1) := by decide +kernel
theorem dX4_childOf_11 : decode cX4_childOf 11 = .ok (.ireturn, 1) := by decide +kernel
theorem dX4_childOf_12 : decode cX4_childOf 12 = .ok (.iload_n 2, 1) := by decide +kernel
theorem dX4_childOf_13 : decode cX4_childOf 13 = .ok (.ifCond .eq 12, 3) := by decide +kernel
theorem dX4_childOf_16 : decode cX4_childOf 16 = .ok (.aload_n 0, 1) := by decide +kernel
theorem dX4_childOf_17 : decode cX4_childOf 17 = .ok (.getfield 21, 3) := by decide +kernel
theorem dX4_childOf_20 : decode cX4_childOf 20 = .ok (.iload_n 1, 1) := by decide +kernel
theorem dX4_childOf_21 : decode cX4_childOf 21 = .ok (.iaload, 1) := by decide +kernel
theorem dX4_childOf_22 : decode cX4_childOf 22 = .ok (.goto 9, 3) := by decide +kernel
theorem dX4_childOf_25 : decode cX4_childOf 25 = .ok (.aload_n 0, 1) := by decide +kernel
theorem dX4_childOf_26 : decode cX4_childOf 26 = .ok (.getfield 24, 3) := by decide +kernel
theorem dX4_childOf_29 : decode cX4_childOf 29 = .ok (.iload_n 1, 1) := by decide +kernel
theorem dX4_childOf_30 : decode cX4_childOf 30 = .ok (.iaload, 1) := by decide +kernel
theorem dX4_childOf_31 : decode cX4_childOf 31 = .ok (.ireturn, 1) := by decide +kernel
theorem dX4_parentOf_0 : decode cX4_parentOf 0 = .ok (.iload_n 1, 1) := by decide +kernel
theorem dX4_parentOf_1 : decode cX4_parentOf 1 = .ok (.ifCond .lt 9, 3) := by decide +kernel
theorem dX4_parentOf_4 : decode cX4_parentOf 4 = .ok (.iload_n 1, 1) := by decide +kernel
theorem dX4_parentOf_5 : decode cX4_parentOf 5 = .ok (.bipush 60, 2) := by decide +kernel
theorem dX4_parentOf_7 : decode cX4_parentOf 7 = .ok (.if_icmp .lt 7, 3) := by decide +kernel
theorem dX4_parentOf_10 : decode cX4_parentOf 10 = .ok (.iconst (-1), 1) := by decide +kernel
theorem dX4_parentOf_11 : decode cX4_parentOf 11 = .ok (.goto 9, 3) := by decide +kernel
theorem dX4_parentOf_14 : decode cX4_parentOf 14 = .ok (.aload_n 0, 1) := by decide +kernel
theorem dX4_parentOf_15 : decode cX4_parentOf 15 = .ok (.getfield 27, 3) := by decide +kernel
theorem dX4_parentOf_18 : decode cX4_parentOf 18 = .ok (.iload_n 1, 1) := by decide +kernel
theorem dX4_parentOf_19 : decode cX4_parentOf 19 = .ok (.iaload, 1) := by decide +kernel
theorem dX4_parentOf_20 : decode cX4_parentOf 20 = .ok (.ireturn, 1) := by decide +kernel
theorem dX4_step_0 : decode cX4_step 0 = .ok (.aload_n 0, 1) := by decide +kernel
theorem dX4_step_1 : decode cX4_step 1 = .ok (.iload_n 1, 1) := by decide +kernel
theorem dX4_step_2 : decode cX4_step 2 = .ok (.invokevirtual 49, 3) := by decide +kernel
theorem dX4_step_5 : decode cX4_step 5 = .ok (.aload_n 0, 1) := by decide +kernel
theorem dX4_step_6 : decode cX4_step 6 = .ok (.iload_n 2, 1) := by decide +kernel
theorem dX4_step_7 : decode cX4_step 7 = .ok (.invokevirtual 49, 3) := by decide +kernel
theorem dX4_step_10 : decode cX4_step 10 = .ok (.isub, 1) := by decide +kernel
theorem dX4_step_11 : decode cX4_step 11 = .ok (.ireturn, 1) := by decide +kernel
theorem dX4_isLeaf_0 : decode cX4_isLeaf 0 = .ok (.aload_n 0, 1) := by decide +kernel
theorem dX4_isLeaf_1 : decode cX4_isLeaf 1 = .ok (.iload_n 1, 1) := by decide +kernel
theorem dX4_isLeaf_2 : decode cX4_isLeaf 2 = .ok (.invokevirtual 53, 3) := by decide +kernel
theorem dX4_isLeaf_5 : decode cX4_isLeaf 5 = .ok (.iconst (-1), 1) := by decide +kernel
theorem dX4_isLeaf_6 : decode cX4_isLeaf 6 = .ok (.if_icmp .ne 16, 3) := by decide +kernel
theorem dX4_isLeaf_9 : decode cX4_isLeaf 9 = .ok (.aload_n 0, 1) := by decide +kernel
theorem dX4_isLeaf_10 : decode cX4_isLeaf 10 = .ok (.iload_n 1, 1) := by decide +kernel
theorem dX4_isLeaf_11 : decode cX4_isLeaf 11 = .ok (.invokevirtual 56, 3) := by decide +kernel
theorem dX4_isLeaf_14 : decode cX4_isLeaf 14 = .ok (.iconst (-1), 1) := by decide +kernel
theorem dX4_isLeaf_15 : decode cX4_isLeaf 15 = .ok (.if_icmp .ne 7, 3) := by decide +kernel
theorem dX4_isLeaf_18 : decode cX4_isLeaf 18 = .ok (.iconst 1, 1) := by decide +kernel
theorem dX4_isLeaf_19 : decode cX4_isLeaf 19 = .ok (.goto 4, 3) := by decide +kernel
theorem dX4_isLeaf_22 : decode cX4_isLeaf 22 = .ok (.iconst 0, 1) := by decide +kernel
theorem dX4_isLeaf_23 : decode cX4_isLeaf 23 = .ok (.ireturn, 1) := by decide +kernel
theorem dX4_setWorth_0 : decode cX4_setWorth 0 = .ok (.iload_n 1, 1) := by decide +kernel
theorem dX4_setWorth_1 : decode cX4_setWorth 1 = .ok (.ifCond .lt 16, 3) := by decide +kernel
theorem dX4_setWorth_4 : decode cX4_setWorth 4 = .ok (.iload_n 1, 1) := by decide +kernel
theorem dX4_setWorth_5 : decode cX4_setWorth 5 = .ok (.bipush 60, 2) := by decide +kernel
theorem dX4_setWorth_7 : decode cX4_setWorth 7 = .ok (.if_icmp .ge 10, 3) := by decide +kernel
theorem dX4_setWorth_10 : decode cX4_setWorth 10 = .ok (.aload_n 0, 1) := by decide +kernel
theorem dX4_setWorth_11 : decode cX4_setWorth 11 = .ok (.getfield 15, 3) := by decide +kernel
theorem dX4_setWorth_14 : decode cX4_setWorth 14 = .ok (.iload_n 1, 1) := by decide +kernel
theorem dX4_setWorth_15 : decode cX4_setWorth 15 = .ok (.iload_n 2, 1) := by decide +kernel
theorem dX4_setWorth_16 : decode cX4_setWorth 16 = .ok (.iastore, 1) := by decide +kernel
theorem dX4_setWorth_17 : decode cX4_setWorth 17 = .ok (.return_, 1) := by decide +kernel
theorem dX4_setRank_0 : decode cX4_setRank 0 = .ok (.iload_n 1, 1) := by decide +kernel
theorem dX4_setRank_1 : decode cX4_setRank 1 = .ok (.ifCond .lt 16, 3) := by decide +kernel
theorem dX4_setRank_4 : decode cX4_setRank 4 = .ok (.iload_n 1, 1) := by decide +kernel
theorem dX4_setRank_5 : decode cX4_setRank 5 = .ok (.bipush 60, 2) := by decide +kernel
theorem dX4_setRank_7 : decode cX4_setRank 7 = .ok (.if_icmp .ge 10, 3) := by decide +kernel
theorem dX4_setRank_10 : decode cX4_setRank 10 = .ok (.aload_n 0, 1) := by decide +kernel
theorem dX4_setRank_11 : decode cX4_setRank 11 = .ok (.getfield 18, 3) := by decide +kernel
theorem dX4_setRank_14 : decode cX4_setRank 14 = .ok (.iload_n 1, 1) := by decide +kernel
theorem dX4_setRank_15 : decode cX4_setRank 15 = .ok (.iload_n 2, 1) := by decide +kernel
theorem dX4_setRank_16 : decode cX4_setRank 16 = .ok (.iastore, 1) := by decide +kernel
theorem dX4_setRank_17 : decode cX4_setRank 17 = .ok (.return_, 1) := by decide +kernel
theorem dX4_addRank_0 : decode cX4_addRank 0 = .ok (.iload_n 1, 1) := by decide +kernel
theorem dX4_addRank_1 : decode cX4_addRank 1 = .ok (.ifCond .lt 19, 3) := by decide +kernel
theorem dX4_addRank_4 : decode cX4_addRank 4 = .ok (.iload_n 1, 1) := by decide +kernel
theorem dX4_addRank_5 : decode cX4_addRank 5 = .ok (.bipush 60, 2) := by decide +kernel
theorem dX4_addRank_7 : decode cX4_addRank 7 = .ok (.if_icmp .ge 13, 3) := by decide +kernel
theorem dX4_addRank_10 : decode cX4_addRank 10 = .ok (.aload_n 0, 1) := by decide +kernel
theorem dX4_addRank_11 : decode cX4_addRank 11 = .ok (.getfield 18, 3) := by decide +kernel
theorem dX4_addRank_14 : decode cX4_addRank 14 = .ok (.iload_n 1, 1) := by decide +kernel
theorem dX4_addRank_15 : decode cX4_addRank 15 = .ok (.dup2, 1) := by decide +kernel
theorem dX4_addRank_16 : decode cX4_addRank 16 = .ok (.iaload, 1) := by decide +kernel
theorem dX4_addRank_17 : decode cX4_addRank 17 = .ok (.iload_n 2, 1) := by decide +kernel
theorem dX4_addRank_18 : decode cX4_addRank 18 = .ok (.iadd, 1) := by decide +kernel
theorem dX4_addRank_19 : decode cX4_addRank 19 = .ok (.iastore, 1) := by decide +kernel
theorem dX4_addRank_20 : decode cX4_addRank 20 = .ok (.return_, 1) := by decide +kernel
theorem dX4_hang_0 : decode cX4_hang 0 = .ok (.iload_n 3, 1) := by decide +kernel
theorem dX4_hang_1 : decode cX4_hang 1 = .ok (.ifCond .lt 16, 3) := by decide +kernel
theorem dX4_hang_4 : decode cX4_hang 4 = .ok (.iload_n 3, 1) := by decide +kernel
theorem dX4_hang_5 : decode cX4_hang 5 = .ok (.bipush 60, 2) := by decide +kernel
theorem dX4_hang_7 : decode cX4_hang 7 = .ok (.if_icmp .ge 10, 3) := by decide +kernel
theorem dX4_hang_10 : decode cX4_hang 10 = .ok (.aload_n 0, 1) := by decide +kernel
theorem dX4_hang_11 : decode cX4_hang 11 = .ok (.getfield 27, 3) := by decide +kernel
theorem dX4_hang_14 : decode cX4_hang 14 = .ok (.iload_n 3, 1) := by decide +kernel
theorem dX4_hang_15 : decode cX4_hang 15 = .ok (.iload_n 1, 1) := by decide +kernel
theorem dX4_hang_16 : decode cX4_hang 16 = .ok (.iastore, 1) := by decide +kernel
theorem dX4_hang_17 : decode cX4_hang 17 = .ok (.iload_n 1, 1) := by decide +kernel
theorem dX4_hang_18 : decode cX4_hang 18 = .ok (.ifCond .lt 9, 3) := by decide +kernel
theorem dX4_hang_21 : decode cX4_hang 21 = .ok (.iload_n 1, 1) := by decide +kernel
theorem dX4_hang_22 : decode cX4_hang 22 = .ok (.bipush 60, 2) := by decide +kernel
theorem dX4_hang_24 : decode cX4_hang 24 = .ok (.if_icmp .lt 11, 3) := by decide +kernel
theorem dX4_hang_27 : decode cX4_hang 27 = .ok (.aload_n 0, 1) := by decide +kernel
theorem dX4_hang_28 : decode cX4_hang 28 = .ok (.iload_n 3, 1) := by decide +kernel
theorem dX4_hang_29 : decode cX4_hang 29 = .ok (.putfield 30, 3) := by decide +kernel
theorem dX4_hang_32 : decode cX4_hang 32 = .ok (.goto 24, 3) := by decide +kernel
theorem dX4_hang_35 : decode cX4_hang 35 = .ok (.iload_n 2, 1) := by decide +kernel
theorem dX4_hang_36 : decode cX4_hang 36 = .ok (.ifCond .eq 13, 3) := by decide +kernel
theorem dX4_hang_39 : decode cX4_hang 39 = .ok (.aload_n 0, 1) := by decide +kernel
theorem dX4_hang_40 : decode cX4_hang 40 = .ok (.getfield 21, 3) := by decide +kernel
theorem dX4_hang_43 : decode cX4_hang 43 = .ok (.iload_n 1, 1) := by decide +kernel
theorem dX4_hang_44 : decode cX4_hang 44 = .ok (.iload_n 3, 1) := by decide +kernel
theorem dX4_hang_45 : decode cX4_hang 45 = .ok (.iastore, 1) := by decide +kernel
theorem dX4_hang_46 : decode cX4_hang 46 = .ok (.goto 10, 3) := by decide +kernel
theorem dX4_hang_49 : decode cX4_hang 49 = .ok (.aload_n 0, 1) := by decide +kernel
theorem dX4_hang_50 : decode cX4_hang 50 = .ok (.getfield 24, 3) := by decide +kernel
theorem dX4_hang_53 : decode cX4_hang 53 = .ok (.iload_n 1, 1) := by decide +kernel
theorem dX4_hang_54 : decode cX4_hang 54 = .ok (.iload_n 3, 1) := by decide +kernel
theorem dX4_hang_55 : decode cX4_hang 55 = .ok (.iastore, 1) := by decide +kernel
theorem dX4_hang_56 : decode cX4_hang 56 = .ok (.return_, 1) := by decide +kernel
theorem dX4_hangNew_0 : decode cX4_hangNew 0 = .ok (.iconst (-1), 1) := by decide +kernel
theorem dX4_hangNew_1 : decode cX4_hangNew 1 = .ok (.istore_n 3, 1) := by decide +kernel
theorem dX4_hangNew_2 : decode cX4_hangNew 2 = .ok (.iconst 0, 1) := by decide +kernel
theorem dX4_hangNew_3 : decode cX4_hangNew 3 = .ok (.istore 4, 2) := by decide +kernel
theorem dX4_hangNew_5 : decode cX4_hangNew 5 = .ok (.aload_n 0, 1) := by decide +kernel
theorem dX4_hangNew_6 : decode cX4_hangNew 6 = .ok (.getfield 30, 3) := by decide +kernel
theorem dX4_hangNew_9 : decode cX4_hangNew 9 = .ok (.istore 5, 2) := by decide +kernel
theorem dX4_hangNew_11 : decode cX4_hangNew 11 = .ok (.iconst 0, 1) := by decide +kernel
theorem dX4_hangNew_12 : decode cX4_hangNew 12 = .ok (.istore 6, 2) := by decide +kernel
theorem dX4_hangNew_14 : decode cX4_hangNew 14 = .ok (.iload 6, 2) := by decide +kernel
theorem dX4_hangNew_16 : decode cX4_hangNew 16 = .ok (.bipush 60, 2) := by decide +kernel
theorem dX4_hangNew_18 : decode cX4_hangNew 18 = .ok (.if_icmp .ge 45, 3) := by decide +kernel
theorem dX4_hangNew_21 : decode cX4_hangNew 21 = .ok (.iload 5, 2) := by decide +kernel
theorem dX4_hangNew_23 : decode cX4_hangNew 23 = .ok (.iconst (-1), 1) := by decide +kernel
theorem dX4_hangNew_24 : decode cX4_hangNew 24 = .ok (.if_icmp .eq 39, 3) := by decide +kernel
theorem dX4_hangNew_27 : decode cX4_hangNew 27 = .ok (.iload 5, 2) := by decide +kernel
theorem dX4_hangNew_29 : decode cX4_hangNew 29 = .ok (.istore_n 3, 1) := by decide +kernel
theorem dX4_hangNew_30 : decode cX4_hangNew 30 = .ok (.iload_n 1, 1) := by decide +kernel
theorem dX4_hangNew_31 : decode cX4_hangNew 31 = .ok (.aload_n 0, 1) := by decide +kernel
theorem dX4_hangNew_32 : decode cX4_hangNew 32 = .ok (.iload 5, 2) := by decide +kernel
theorem dX4_hangNew_34 : decode cX4_hangNew 34 = .ok (.invokevirtual 59, 3) := by decide +kernel
theorem dX4_hangNew_37 : decode cX4_hangNew 37 = .ok (.if_icmp .ge 7, 3) := by decide +kernel
theorem dX4_hangNew_40 : decode cX4_hangNew 40 = .ok (.iconst 1, 1) := by decide +kernel
theorem dX4_hangNew_41 : decode cX4_hangNew 41 = .ok (.goto 4, 3) := by decide +kernel
theorem dX4_hangNew_44 : decode cX4_hangNew 44 = .ok (.iconst 0, 1) := by decide +kernel
theorem dX4_hangNew_45 : decode cX4_hangNew 45 = .ok (.istore 4, 2) := by decide +kernel
theorem dX4_hangNew_47 : decode cX4_hangNew 47 = .ok (.aload_n 0, 1) := by decide +kernel
theorem dX4_hangNew_48 : decode cX4_hangNew 48 = .ok (.iload 5, 2) := by decide +kernel
theorem dX4_hangNew_50 : decode cX4_hangNew 50 = .ok (.iload 4, 2) := by decide +kernel
theorem dX4_hangNew_52 : decode cX4_hangNew 52 = .ok (.invokevirtual 62, 3) := by decide +kernel
theorem dX4_hangNew_55 : decode cX4_hangNew 55 = .ok (.istore 5, 2) := by decide +kernel
theorem dX4_hangNew_57 : decode cX4_hangNew 57 = .ok (.iinc 6 1, 3) := by decide +kernel
theorem dX4_hangNew_60 : decode cX4_hangNew 60 = .ok (.goto (-46), 3) := by decide +kernel
theorem dX4_hangNew_63 : decode cX4_hangNew 63 = .ok (.aload_n 0, 1) := by decide +kernel
theorem dX4_hangNew_64 : decode cX4_hangNew 64 = .ok (.invokevirtual 66, 3) := by decide +kernel
theorem dX4_hangNew_67 : decode cX4_hangNew 67 = .ok (.istore 6, 2) := by decide +kernel
theorem dX4_hangNew_69 : decode cX4_hangNew 69 = .ok (.aload_n 0, 1) := by decide +kernel
theorem dX4_hangNew_70 : decode cX4_hangNew 70 = .ok (.iload 6, 2) := by decide +kernel
theorem dX4_hangNew_72 : decode cX4_hangNew 72 = .ok (.iload_n 1, 1) := by decide +kernel
theorem dX4_hangNew_73 : decode cX4_hangNew 73 = .ok (.iload_n 2, 1) := by decide +kernel
theorem dX4_hangNew_74 : decode cX4_hangNew 74 = .ok (.invokevirtual 70, 3) := by decide +kernel
theorem dX4_hangNew_77 : decode cX4_hangNew 77 = .ok (.aload_n 0, 1) := by decide +kernel
theorem dX4_hangNew_78 : decode cX4_hangNew 78 = .ok (.iload_n 3, 1) := by decide +kernel
theorem dX4_hangNew_79 : decode cX4_hangNew 79 = .ok (.iload 4, 2) := by decide +kernel
theorem dX4_hangNew_81 : decode cX4_hangNew 81 = .ok (.iload 6, 2) := by decide +kernel
theorem dX4_hangNew_83 : decode cX4_hangNew 83 = .ok (.invokevirtual 73, 3) := by decide +kernel
theorem dX4_hangNew_86 : decode cX4_hangNew 86 = .ok (.iload 6, 2) := by decide +kernel
theorem dX4_hangNew_88 : decode cX4_hangNew 88 = .ok (.ireturn, 1) := by decide +kernel
theorem dX4_freeSlot_0 : decode cX4_freeSlot 0 = .ok (.iconst 0, 1) := by decide +kernel
theorem dX4_freeSlot_1 : decode cX4_freeSlot 1 = .ok (.istore_n 1, 1) := by decide +kernel
theorem dX4_freeSlot_2 : decode cX4_freeSlot 2 = .ok (.iload_n 1, 1) := by decide +kernel
theorem dX4_freeSlot_3 : decode cX4_freeSlot 3 = .ok (.bipush 60, 2) := by decide +kernel
theorem dX4_freeSlot_5 : decode cX4_freeSlot 5 = .ok (.if_icmp .ge 21, 3) := by decide +kernel
theorem dX4_freeSlot_8 : decode cX4_freeSlot 8 = .ok (.aload_n 0, 1) := by decide +kernel
theorem dX4_freeSlot_9 : decode cX4_freeSlot 9 = .ok (.getfield 9, 3) := by decide +kernel
theorem dX4_freeSlot_12 : decode cX4_freeSlot 12 = .ok (.iload_n 1, 1) := by decide +kernel
theorem dX4_freeSlot_13 : decode cX4_freeSlot 13 = .ok (.iaload, 1) := by decide +kernel
theorem dX4_freeSlot_14 : decode cX4_freeSlot 14 = .ok (.iconst (-1), 1) := by decide +kernel
theorem dX4_freeSlot_15 : decode cX4_freeSlot 15 = .ok (.if_icmp .ne 5, 3) := by decide +kernel
theorem dX4_freeSlot_18 : decode cX4_freeSlot 18 = .ok (.iload_n 1, 1) := by decide +kernel
theorem dX4_freeSlot_19 : decode cX4_freeSlot 19 = .ok (.ireturn, 1) := by decide +kernel
theorem dX4_freeSlot_20 : decode cX4_freeSlot 20 = .ok (.iinc 1 1, 3) := by decide +kernel
theorem dX4_freeSlot_23 : decode cX4_freeSlot 23 = .ok (.goto (-21), 3) := by decide +kernel
theorem dX4_freeSlot_26 : decode cX4_freeSlot 26 = .ok (.iconst (-1), 1) := by decide +kernel
theorem dX4_freeSlot_27 : decode cX4_freeSlot 27 = .ok (.ireturn, 1) := by decide +kernel
theorem dX4_fill_0 : decode cX4_fill 0 = .ok (.iload_n 1, 1) := by decide +kernel
theorem dX4_fill_1 : decode cX4_fill 1 = .ok (.ifCond .lt 54, 3) := by decide +kernel
theorem dX4_fill_4 : decode cX4_fill 4 = .ok (.iload_n 1, 1) := by decide +kernel
theorem dX4_fill_5 : decode cX4_fill 5 = .ok (.bipush 60, 2) := by decide +kernel
theorem dX4_fill_7 : decode cX4_fill 7 = .ok (.if_icmp .ge 48, 3) := by decide +kernel
theorem dX4_fill_10 : decode cX4_fill 10 = .ok (.aload_n 0, 1) := by decide +kernel
theorem dX4_fill_11 : decode cX4_fill 11 = .ok (.getfield 9, 3) := by decide +kernel
theorem dX4_fill_14 : decode cX4_fill 14 = .ok (.iload_n 1, 1) := by decide +kernel
theorem dX4_fill_15 : decode cX4_fill 15 = .ok (.iload_n 2, 1) := by decide +kernel
theorem dX4_fill_16 : decode cX4_fill 16 = .ok (.iastore, 1) := by decide +kernel
theorem dX4_fill_17 : decode cX4_fill 17 = .ok (.aload_n 0, 1) := by decide +kernel
theorem dX4_fill_18 : decode cX4_fill 18 = .ok (.getfield 15, 3) := by decide +kernel
theorem dX4_fill_21 : decode cX4_fill 21 = .ok (.iload_n 1, 1) := by decide +kernel
theorem dX4_fill_22 : decode cX4_fill 22 = .ok (.iload_n 3, 1) := by decide +kernel
theorem dX4_fill_23 : decode cX4_fill 23 = .ok (.iastore, 1) := by decide +kernel
theorem dX4_fill_24 : decode cX4_fill 24 = .ok (.aload_n 0, 1) := by decide +kernel
theorem dX4_fill_25 : decode cX4_fill 25 = .ok (.getfield 18, 3) := by decide +kernel
theorem dX4_fill_28 : decode cX4_fill 28 = .ok (.iload_n 1, 1) := by decide +kernel
theorem dX4_fill_29 : decode cX4_fill 29 = .ok (.iconst 0, 1) := by decide +kernel
theorem dX4_fill_30 : decode cX4_fill 30 = .ok (.iastore, 1) := by decide +kernel
theorem dX4_fill_31 : decode cX4_fill 31 = .ok (.aload_n 0, 1) := by decide +kernel
theorem dX4_fill_32 : decode cX4_fill 32 = .ok (.getfield 21, 3) := by decide +kernel
theorem dX4_fill_35 : decode cX4_fill 35 = .ok (.iload_n 1, 1) := by decide +kernel
theorem dX4_fill_36 : decode cX4_fill 36 = .ok (.iconst (-1), 1) := by decide +kernel
theorem dX4_fill_37 : decode cX4_fill 37 = .ok (.iastore, 1) := by decide +kernel
theorem dX4_fill_38 : decode cX4_fill 38 = .ok (.aload_n 0, 1) := by decide +kernel
theorem dX4_fill_39 : decode cX4_fill 39 = .ok (.getfield 24, 3) := by decide +kernel
theorem dX4_fill_42 : decode cX4_fill 42 = .ok (.iload_n 1, 1) := by decide +kernel
theorem dX4_fill_43 : decode cX4_fill 43 = .ok (.iconst (-1), 1) := by decide +kernel
theorem dX4_fill_44 : decode cX4_fill 44 = .ok (.iastore, 1) := by decide +kernel
theorem dX4_fill_45 : decode cX4_fill 45 = .ok (.aload_n 0, 1) := by decide +kernel
theorem dX4_fill_46 : decode cX4_fill 46 = .ok (.dup, 1) := by decide +kernel
theorem dX4_fill_47 : decode cX4_fill 47 = .ok (.getfield 34, 3) := by decide +kernel
theorem dX4_fill_50 : decode cX4_fill 50 = .ok (.iconst 1, 1) := by decide +kernel
theorem dX4_fill_51 : decode cX4_fill 51 = .ok (.iadd, 1) := by decide +kernel
theorem dX4_fill_52 : decode cX4_fill 52 = .ok (.putfield 34, 3) := by decide +kernel
theorem dX4_fill_55 : decode cX4_fill 55 = .ok (.return_, 1) := by decide +kernel
theorem dX4_takeOff_0 : decode cX4_takeOff 0 = .ok (.aload_n 0, 1) := by decide +kernel
theorem dX4_takeOff_1 : decode cX4_takeOff 1 = .ok (.iload_n 1, 1) := by decide +kernel
theorem dX4_takeOff_2 : decode cX4_takeOff 2 = .ok (.invokevirtual 77, 3) := by decide +kernel
theorem dX4_takeOff_5 : decode cX4_takeOff 5 = .ok (.istore_n 2, 1) := by decide +kernel
theorem dX4_takeOff_6 : decode cX4_takeOff 6 = .ok (.aload_n 0, 1) := by decide +kernel
theorem dX4_takeOff_7 : decode cX4_takeOff 7 = .ok (.iload_n 1, 1) := by decide +kernel
theorem dX4_takeOff_8 : decode cX4_takeOff 8 = .ok (.invokevirtual 53, 3) := by decide +kernel
theorem dX4_takeOff_11 : decode cX4_takeOff 11 = .ok (.iconst (-1), 1) := by decide +kernel
theorem dX4_takeOff_12 : decode cX4_takeOff 12 = .ok (.if_icmp .eq 11, 3) := by decide +kernel
theorem dX4_takeOff_15 : decode cX4_takeOff 15 = .ok (.aload_n 0, 1) := by decide +kernel
theorem dX4_takeOff_16 : decode cX4_takeOff 16 = .ok (.iload_n 1, 1) := by decide +kernel
theorem dX4_takeOff_17 : decode cX4_takeOff 17 = .ok (.invokevirtual 53, 3) := by decide +kernel
theorem dX4_takeOff_20 : decode cX4_takeOff 20 = .ok (.goto 8, 3) := by decide +kernel
theorem dX4_takeOff_23 : decode cX4_takeOff 23 = .ok (.aload_n 0, 1) := by decide +kernel
theorem dX4_takeOff_24 : decode cX4_takeOff 24 = .ok (.iload_n 1, 1) := by decide +kernel
theorem dX4_takeOff_25 : decode cX4_takeOff 25 = .ok (.invokevirtual 56, 3) := by decide +kernel
theorem dX4_takeOff_28 : decode cX4_takeOff 28 = .ok (.istore_n 3, 1) := by decide +kernel
theorem dX4_takeOff_29 : decode cX4_takeOff 29 = .ok (.aload_n 0, 1) := by decide +kernel
theorem dX4_takeOff_30 : decode cX4_takeOff 30 = .ok (.iload_n 2, 1) := by decide +kernel
theorem dX4_takeOff_31 : decode cX4_takeOff 31 = .ok (.aload_n 0, 1) := by decide +kernel
theorem dX4_takeOff_32 : decode cX4_takeOff 32 = .ok (.iload_n 2, 1) := by decide +kernel
theorem dX4_takeOff_33 : decode cX4_takeOff 33 = .ok (.invokevirtual 53, 3) := by decide +kernel
theorem dX4_takeOff_36 : decode cX4_takeOff 36 = .ok (.iload_n 1, 1) := by decide +kernel
theorem dX4_takeOff_37 : decode cX4_takeOff 37 = .ok (.if_icmp .ne 7, 3) := by decide +kernel
theorem dX4_takeOff_40 : decode cX4_takeOff 40 = .ok (.iconst 1, 1) := by decide +kernel
theorem dX4_takeOff_41 : decode cX4_takeOff 41 = .ok (.goto 4, 3) := by decide +kernel
theorem dX4_takeOff_44 : decode cX4_takeOff 44 = .ok (.iconst 0, 1) := by decide +kernel
theorem dX4_takeOff_45 : decode cX4_takeOff 45 = .ok (.iload_n 3, 1) := by decide +kernel
theorem dX4_takeOff_46 : decode cX4_takeOff 46 = .ok (.invokevirtual 73, 3) := by decide +kernel
theorem dX4_takeOff_49 : decode cX4_takeOff 49 = .ok (.iload_n 1, 1) := by decide +kernel
theorem dX4_takeOff_50 : decode cX4_takeOff 50 = .ok (.ifCond .lt 26, 3) := by decide +kernel
theorem dX4_takeOff_53 : decode cX4_takeOff 53 = .ok (.iload_n 1, 1) := by decide +kernel
theorem dX4_takeOff_54 : decode cX4_takeOff 54 = .ok (.bipush 60, 2) := by decide +kernel
theorem dX4_takeOff_56 : decode cX4_takeOff 56 = .ok (.if_icmp .ge 20, 3) := by decide +kernel
theorem dX4_takeOff_59 : decode cX4_takeOff 59 = .ok (.aload_n 0, 1) := by decide +kernel
theorem dX4_takeOff_60 : decode cX4_takeOff 60 = .ok (.getfield 9, 3) := by decide +kernel
theorem dX4_takeOff_63 : decode cX4_takeOff 63 = .ok (.iload_n 1, 1) := by decide +kernel
theorem dX4_takeOff_64 : decode cX4_takeOff 64 = .ok (.iconst (-1), 1) := by decide +kernel
theorem dX4_takeOff_65 : decode cX4_takeOff 65 = .ok (.iastore, 1) := by decide +kernel
theorem dX4_takeOff_66 : decode cX4_takeOff 66 = .ok (.aload_n 0, 1) := by decide +kernel
theorem dX4_takeOff_67 : decode cX4_takeOff 67 = .ok (.dup, 1) := by decide +kernel
theorem dX4_takeOff_68 : decode cX4_takeOff 68 = .ok (.getfield 34, 3) := by decide +kernel
theorem dX4_takeOff_71 : decode cX4_takeOff 71 = .ok (.iconst 1, 1) := by decide +kernel
theorem dX4_takeOff_72 : decode cX4_takeOff 72 = .ok (.isub, 1) := by decide +kernel
theorem dX4_takeOff_73 : decode cX4_takeOff 73 = .ok (.putfield 34, 3) := by decide +kernel
theorem dX4_takeOff_76 : decode cX4_takeOff 76 = .ok (.iload_n 3, 1) := by decide +kernel
theorem dX4_takeOff_77 : decode cX4_takeOff 77 = .ok (.ireturn, 1) := by decide +kernel
theorem dX4_copyKeyAndWorth_0 : decode cX4_copyKeyAndWorth 0 = .ok (.iload_n 1, 1) := by decide +kernel
theorem dX4_copyKeyAndWorth_1 : decode cX4_copyKeyAndWorth 1 = .ok (.ifCond .lt 43, 3) := by decide +kernel
theorem dX4_copyKeyAndWorth_4 : decode cX4_copyKeyAndWorth 4 = .ok (.iload_n 1, 1) := by decide +kernel
theorem dX4_copyKeyAndWorth_5 : decode cX4_copyKeyAndWorth 5 = .ok (.bipush 60, 2) := by decide +kernel
theorem dX4_copyKeyAndWorth_7 : decode cX4_copyKeyAndWorth 7 = .ok (.if_icmp .ge 37, 3) := by decide +kernel
theorem dX4_copyKeyAndWorth_10 : decode cX4_copyKeyAndWorth 10 = .ok (.iload_n 2, 1) := by decide +kernel
theorem dX4_copyKeyAndWorth_11 : decode cX4_copyKeyAndWorth 11 = .ok (.ifCond .lt 33, 3) := by decide +kernel
theorem dX4_copyKeyAndWorth_14 : decode cX4_copyKeyAndWorth 14 = .ok (.iload_n 2, 1) := by decide +kernel
theorem dX4_copyKeyAndWorth_15 : decode cX4_copyKeyAndWorth 15 = .ok (.bipush 60, 2) := by decide +kernel
theorem dX4_copyKeyAndWorth_17 : decode cX4_copyKeyAndWorth 17 = .ok (.if_icmp .ge 27, 3) := by decide +kernel
theorem dX4_copyKeyAndWorth_20 : decode cX4_copyKeyAndWorth 20 = .ok (.aload_n 0, 1) := by decide +kernel
theorem dX4_copyKeyAndWorth_21 : decode cX4_copyKeyAndWorth 21 = .ok (.getfield 9, 3) := by decide +kernel
theorem dX4_copyKeyAndWorth_24 : decode cX4_copyKeyAndWorth 24 = .ok (.iload_n 2, 1) := by decide +kernel
theorem dX4_copyKeyAndWorth_25 : decode cX4_copyKeyAndWorth 25 = .ok (.aload_n 0, 1) := by decide +kernel
theorem dX4_copyKeyAndWorth_26 : decode cX4_copyKeyAndWorth 26 = .ok (.getfield 9, 3) := by decide +kernel
theorem dX4_copyKeyAndWorth_29 : decode cX4_copyKeyAndWorth 29 = .ok (.iload_n 1, 1) := by decide +kernel
theorem dX4_copyKeyAndWorth_30 : decode cX4_copyKeyAndWorth 30 = .ok (.iaload, 1) := by decide +kernel
theorem dX4_copyKeyAndWorth_31 : decode cX4_copyKeyAndWorth 31 = .ok (.iastore, 1) := by decide +kernel
theorem dX4_copyKeyAndWorth_32 : decode cX4_copyKeyAndWorth 32 = .ok (.aload_n 0, 1) := by decide +kernel
theorem dX4_copyKeyAndWorth_33 : decode cX4_copyKeyAndWorth 33 = .ok (.getfield 15, 3) := by decide +kernel
theorem dX4_copyKeyAndWorth_36 : decode cX4_copyKeyAndWorth 36 = .ok (.iload_n 2, 1) := by decide +kernel
theorem dX4_copyKeyAndWorth_37 : decode cX4_copyKeyAndWorth 37 = .ok (.aload_n 0, 1) := by decide +kernel
theorem dX4_copyKeyAndWorth_38 : decode cX4_copyKeyAndWorth 38 = .ok (.getfield 15, 3) := by decide +kernel
theorem dX4_copyKeyAndWorth_41 : decode cX4_copyKeyAndWorth 41 = .ok (.iload_n 1, 1) := by decide +kernel
theorem dX4_copyKeyAndWorth_42 : decode cX4_copyKeyAndWorth 42 = .ok (.iaload, 1) := by decide +kernel
theorem dX4_copyKeyAndWorth_43 : decode cX4_copyKeyAndWorth 43 = .ok (.iastore, 1) := by decide +kernel
theorem dX4_copyKeyAndWorth_44 : decode cX4_copyKeyAndWorth 44 = .ok (.return_, 1) := by decide +kernel
theorem dX4_turnOverParent_0 : decode cX4_turnOverParent 0 = .ok (.aload_n 0, 1) := by decide +kernel
theorem dX4_turnOverParent_1 : decode cX4_turnOverParent 1 = .ok (.iload_n 1, 1) := by decide +kernel
theorem dX4_turnOverParent_2 : decode cX4_turnOverParent 2 = .ok (.invokevirtual 77, 3) := by decide +kernel
theorem dX4_turnOverParent_5 : decode cX4_turnOverParent 5 = .ok (.istore_n 2, 1) := by decide +kernel
theorem dX4_turnOverParent_6 : decode cX4_turnOverParent 6 = .ok (.iload_n 2, 1) := by decide +kernel
theorem dX4_turnOverParent_7 : decode cX4_turnOverParent 7 = .ok (.iconst (-1), 1) := by decide +kernel
theorem dX4_turnOverParent_8 : decode cX4_turnOverParent 8 = .ok (.if_icmp .ne 4, 3) := by decide +kernel
theorem dX4_turnOverParent_11 : decode cX4_turnOverParent 11 = .ok (.return_, 1) := by decide +kernel
theorem dX4_turnOverParent_12 : decode cX4_turnOverParent 12 = .ok (.aload_n 0, 1) := by decide +kernel
theorem dX4_turnOverParent_13 : decode cX4_turnOverParent 13 = .ok (.iload_n 2, 1) := by decide +kernel
theorem dX4_turnOverParent_14 : decode cX4_turnOverParent 14 = .ok (.invokevirtual 77, 3) := by decide +kernel
theorem dX4_turnOverParent_17 : decode cX4_turnOverParent 17 = .ok (.istore_n 3, 1) := by decide +kernel
theorem dX4_turnOverParent_18 : decode cX4_turnOverParent 18 = .ok (.aload_n 0, 1) := by decide +kernel
theorem dX4_turnOverParent_19 : decode cX4_turnOverParent 19 = .ok (.iload_n 3, 1) := by decide +kernel
theorem dX4_turnOverParent_20 : decode cX4_turnOverParent 20 = .ok (.invokevirtual 53, 3) := by decide +kernel
theorem dX4_turnOverParent_23 : decode cX4_turnOverParent 23 = .ok (.iload_n 2, 1) := by decide +kernel
theorem dX4_turnOverParent_24 : decode cX4_turnOverParent 24 = .ok (.if_icmp .ne 7, 3) := by decide +kernel
theorem dX4_turnOverParent_27 : decode cX4_turnOverParent 27 = .ok (.iconst 1, 1) := by decide +kernel
theorem dX4_turnOverParent_28 : decode cX4_turnOverParent 28 = .ok (.goto 4, 3) := by decide +kernel
theorem dX4_turnOverParent_31 : decode cX4_turnOverParent 31 = .ok (.iconst 0, 1) := by decide +kernel
theorem dX4_turnOverParent_32 : decode cX4_turnOverParent 32 = .ok (.istore 4, 2) := by decide +kernel
theorem dX4_turnOverParent_34 : decode cX4_turnOverParent 34 = .ok (.aload_n 0, 1) := by decide +kernel
theorem dX4_turnOverParent_35 : decode cX4_turnOverParent 35 = .ok (.iload_n 2, 1) := by decide +kernel
theorem dX4_turnOverParent_36 : decode cX4_turnOverParent 36 = .ok (.invokevirtual 53, 3) := by decide +kernel
theorem dX4_turnOverParent_39 : decode cX4_turnOverParent 39 = .ok (.iload_n 1, 1) := by decide +kernel
theorem dX4_turnOverParent_40 : decode cX4_turnOverParent 40 = .ok (.if_icmp .ne 7, 3) := by decide +kernel
theorem dX4_turnOverParent_43 : decode cX4_turnOverParent 43 = .ok (.iconst 1, 1) := by decide +kernel
theorem dX4_turnOverParent_44 : decode cX4_turnOverParent 44 = .ok (.goto 4, 3) := by decide +kernel
theorem dX4_turnOverParent_47 : decode cX4_turnOverParent 47 = .ok (.iconst 0, 1) := by decide +kernel
theorem dX4_turnOverParent_48 : decode cX4_turnOverParent 48 = .ok (.istore 5, 2) := by decide +kernel
theorem dX4_turnOverParent_50 : decode cX4_turnOverParent 50 = .ok (.aload_n 0, 1) := by decide +kernel
theorem dX4_turnOverParent_51 : decode cX4_turnOverParent 51 = .ok (.iload_n 2, 1) := by decide +kernel
theorem dX4_turnOverParent_52 : decode cX4_turnOverParent 52 = .ok (.iload 5, 2) := by decide +kernel
theorem dX4_turnOverParent_54 : decode cX4_turnOverParent 54 = .ok (.aload_n 0, 1) := by decide +kernel
theorem dX4_turnOverParent_55 : decode cX4_turnOverParent 55 = .ok (.iload_n 1, 1) := by decide +kernel
theorem dX4_turnOverParent_56 : decode cX4_turnOverParent 56 = .ok (.iload 5, 2) := by decide +kernel
theorem dX4_turnOverParent_58 : decode cX4_turnOverParent 58 = .ok (.ifCond .ne 7, 3) := by decide +kernel
theorem dX4_turnOverParent_61 : decode cX4_turnOverParent 61 = .ok (.iconst 1, 1) := by decide +kernel
theorem dX4_turnOverParent_62 : decode cX4_turnOverParent 62 = .ok (.goto 4, 3) := by decide +kernel
theorem dX4_turnOverParent_65 : decode cX4_turnOverParent 65 = .ok (.iconst 0, 1) := by decide +kernel
theorem dX4_turnOverParent_66 : decode cX4_turnOverParent 66 = .ok (.invokevirtual 62, 3) := by decide +kernel
theorem dX4_turnOverParent_69 : decode cX4_turnOverParent 69 = .ok (.invokevirtual 73, 3) := by decide +kernel
theorem dX4_turnOverParent_72 : decode cX4_turnOverParent 72 = .ok (.aload_n 0, 1) := by decide +kernel
theorem dX4_turnOverParent_73 : decode cX4_turnOverParent 73 = .ok (.iload_n 1, 1) := by decide +kernel
theorem dX4_turnOverParent_74 : decode cX4_turnOverParent 74 = .ok (.iload 5, 2) := by decide +kernel
theorem dX4_turnOverParent_76 : decode cX4_turnOverParent 76 = .ok (.ifCond .ne 7, 3) := by decide +kernel
theorem dX4_turnOverParent_79 : decode cX4_turnOverParent 79 = .ok (.iconst 1, 1) := by decide +kernel
theorem dX4_turnOverParent_80 : decode cX4_turnOverParent 80 = .ok (.goto 4, 3) := by decide +kernel
theorem dX4_turnOverParent_83 : decode cX4_turnOverParent 83 = .ok (.iconst 0, 1) := by decide +kernel
theorem dX4_turnOverParent_84 : decode cX4_turnOverParent 84 = .ok (.iload_n 2, 1) := by decide +kernel
theorem dX4_turnOverParent_85 : decode cX4_turnOverParent 85 = .ok (.invokevirtual 73, 3) := by decide +kernel
theorem dX4_turnOverParent_88 : decode cX4_turnOverParent 88 = .ok (.aload_n 0, 1) := by decide +kernel
theorem dX4_turnOverParent_89 : decode cX4_turnOverParent 89 = .ok (.iload_n 3, 1) := by decide +kernel
theorem dX4_turnOverParent_90 : decode cX4_turnOverParent 90 = .ok (.iload 4, 2) := by decide +kernel
theorem dX4_turnOverParent_92 : decode cX4_turnOverParent 92 = .ok (.iload_n 1, 1) := by decide +kernel
theorem dX4_turnOverParent_93 : decode cX4_turnOverParent 93 = .ok (.invokevirtual 73, 3) := by decide +kernel
theorem dX4_turnOverParent_96 : decode cX4_turnOverParent 96 = .ok (.return_, 1) := by decide +kernel
theorem dX4_slotOfKey_0 : decode cX4_slotOfKey 0 = .ok (.aload_n 0, 1) := by decide +kernel
theorem dX4_slotOfKey_1 : decode cX4_slotOfKey 1 = .ok (.getfield 30, 3) := by decide +kernel
theorem dX4_slotOfKey_4 : decode cX4_slotOfKey 4 = .ok (.istore_n 2, 1) := by decide +kernel
theorem dX4_slotOfKey_5 : decode cX4_slotOfKey 5 = .ok (.iconst 0, 1) := by decide +kernel
theorem dX4_slotOfKey_6 : decode cX4_slotOfKey 6 = .ok (.istore_n 3, 1) := by decide +kernel
theorem dX4_slotOfKey_7 : decode cX4_slotOfKey 7 = .ok (.iload_n 3, 1) := by decide +kernel
theorem dX4_slotOfKey_8 : decode cX4_slotOfKey 8 = .ok (.bipush 60, 2) := by decide +kernel
theorem dX4_slotOfKey_10 : decode cX4_slotOfKey 10 = .ok (.if_icmp .ge 45, 3) := by decide +kernel
theorem dX4_slotOfKey_13 : decode cX4_slotOfKey 13 = .ok (.iload_n 2, 1) := by decide +kernel
