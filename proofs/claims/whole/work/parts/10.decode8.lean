theorem dX9_join_83 : decode cX9_join 83 = .ok (.iadd, 1) := by decide +kernel
theorem dX9_join_84 : decode cX9_join 84 = .ok (.iconst 1, 1) := by decide +kernel
theorem dX9_join_85 : decode cX9_join 85 = .ok (.iadd, 1) := by decide +kernel
theorem dX9_join_86 : decode cX9_join 86 = .ok (.iaload, 1) := by decide +kernel
theorem dX9_join_87 : decode cX9_join 87 = .ok (.invokevirtual 211, 3) := by decide +kernel
theorem dX9_join_90 : decode cX9_join 90 = .ok (.ifCond .eq 7, 3) := by decide +kernel
theorem dX9_join_93 : decode cX9_join 93 = .ok (.iconst 1, 1) := by decide +kernel
theorem dX9_join_94 : decode cX9_join 94 = .ok (.goto 4, 3) := by decide +kernel
theorem dX9_join_97 : decode cX9_join 97 = .ok (.iconst 0, 1) := by decide +kernel
theorem dX9_join_98 : decode cX9_join 98 = .ok (.iadd, 1) := by decide +kernel
theorem dX9_join_99 : decode cX9_join 99 = .ok (.istore_n 2, 1) := by decide +kernel
theorem dX9_join_100 : decode cX9_join 100 = .ok (.aload_n 0, 1) := by decide +kernel
theorem dX9_join_101 : decode cX9_join 101 = .ok (.iload_n 1, 1) := by decide +kernel
theorem dX9_join_102 : decode cX9_join 102 = .ok (.iload 4, 2) := by decide +kernel
theorem dX9_join_104 : decode cX9_join 104 = .ok (.invokevirtual 215, 3) := by decide +kernel
theorem dX9_join_107 : decode cX9_join 107 = .ok (.istore_n 3, 1) := by decide +kernel
theorem dX9_join_108 : decode cX9_join 108 = .ok (.goto (-64), 3) := by decide +kernel
theorem dX9_join_111 : decode cX9_join 111 = .ok (.iload_n 2, 1) := by decide +kernel
theorem dX9_join_112 : decode cX9_join 112 = .ok (.ireturn, 1) := by decide +kernel
theorem dX9_draw_0 : decode cX9_draw 0 = .ok (.aload_n 0, 1) := by decide +kernel
theorem dX9_draw_1 : decode cX9_draw 1 = .ok (.aload_n 0, 1) := by decide +kernel
theorem dX9_draw_2 : decode cX9_draw 2 = .ok (.getfield 218, 3) := by decide +kernel
theorem dX9_draw_5 : decode cX9_draw 5 = .ok (.i2l, 1) := by decide +kernel
theorem dX9_draw_6 : decode cX9_draw 6 = .ok (.ldc2_w 221, 3) := by decide +kernel
theorem dX9_draw_9 : decode cX9_draw 9 = .ok (.lmul, 1) := by decide +kernel
theorem dX9_draw_10 : decode cX9_draw 10 = .ok (.ldc2_w 223, 3) := by decide +kernel
theorem dX9_draw_13 : decode cX9_draw 13 = .ok (.ladd, 1) := by decide +kernel
theorem dX9_draw_14 : decode cX9_draw 14 = .ok (.ldc2_w 225, 3) := by decide +kernel
theorem dX9_draw_17 : decode cX9_draw 17 = .ok (.lrem, 1) := by decide +kernel
theorem dX9_draw_18 : decode cX9_draw 18 = .ok (.l2i, 1) := by decide +kernel
theorem dX9_draw_19 : decode cX9_draw 19 = .ok (.putfield 218, 3) := by decide +kernel
theorem dX9_draw_22 : decode cX9_draw 22 = .ok (.aload_n 0, 1) := by decide +kernel
theorem dX9_draw_23 : decode cX9_draw 23 = .ok (.getfield 218, 3) := by decide +kernel
theorem dX9_draw_26 : decode cX9_draw 26 = .ok (.ldc 227, 2) := by decide +kernel
theorem dX9_draw_28 : decode cX9_draw 28 = .ok (.idiv, 1) := by decide +kernel
theorem dX9_draw_29 : decode cX9_draw 29 = .ok (.iload_n 1, 1) := by decide +kernel
theorem dX9_draw_30 : decode cX9_draw 30 = .ok (.irem, 1) := by decide +kernel
theorem dX9_draw_31 : decode cX9_draw 31 = .ok (.ireturn, 1) := by decide +kernel
theorem dX9_drift_0 : decode cX9_drift 0 = .ok (.iload_n 1, 1) := by decide +kernel
theorem dX9_drift_1 : decode cX9_drift 1 = .ok (.i2l, 1) := by decide +kernel
theorem dX9_drift_2 : decode cX9_drift 2 = .ok (.lconst 1, 1) := by decide +kernel
theorem dX9_drift_3 : decode cX9_drift 3 = .ok (.ldc2_w 228, 3) := by decide +kernel
theorem dX9_drift_6 : decode cX9_drift 6 = .ok (.invokestatic 172, 3) := by decide +kernel
theorem dX9_drift_9 : decode cX9_drift 9 = .ok (.ifCond .ne 6, 3) := by decide +kernel
theorem dX9_drift_12 : decode cX9_drift 12 = .ok (.ldc 171, 2) := by decide +kernel
theorem dX9_drift_14 : decode cX9_drift 14 = .ok (.ireturn, 1) := by decide +kernel
theorem dX9_drift_15 : decode cX9_drift 15 = .ok (.iconst 0, 1) := by decide +kernel
theorem dX9_drift_16 : decode cX9_drift 16 = .ok (.istore_n 2, 1) := by decide +kernel
theorem dX9_drift_17 : decode cX9_drift 17 = .ok (.iload_n 2, 1) := by decide +kernel
theorem dX9_drift_18 : decode cX9_drift 18 = .ok (.iload_n 1, 1) := by decide +kernel
theorem dX9_drift_19 : decode cX9_drift 19 = .ok (.if_icmp .ge 90, 3) := by decide +kernel
theorem dX9_drift_22 : decode cX9_drift 22 = .ok (.aload_n 0, 1) := by decide +kernel
theorem dX9_drift_23 : decode cX9_drift 23 = .ok (.iconst 3, 1) := by decide +kernel
theorem dX9_drift_24 : decode cX9_drift 24 = .ok (.invokevirtual 230, 3) := by decide +kernel
theorem dX9_drift_27 : decode cX9_drift 27 = .ok (.istore_n 3, 1) := by decide +kernel
theorem dX9_drift_28 : decode cX9_drift 28 = .ok (.aload_n 0, 1) := by decide +kernel
theorem dX9_drift_29 : decode cX9_drift 29 = .ok (.sipush 200, 3) := by decide +kernel
theorem dX9_drift_32 : decode cX9_drift 32 = .ok (.invokevirtual 230, 3) := by decide +kernel
theorem dX9_drift_35 : decode cX9_drift 35 = .ok (.istore 4, 2) := by decide +kernel
theorem dX9_drift_37 : decode cX9_drift 37 = .ok (.aload_n 0, 1) := by decide +kernel
theorem dX9_drift_38 : decode cX9_drift 38 = .ok (.iload 4, 2) := by decide +kernel
theorem dX9_drift_40 : decode cX9_drift 40 = .ok (.invokevirtual 196, 3) := by decide +kernel
theorem dX9_drift_43 : decode cX9_drift 43 = .ok (.istore 5, 2) := by decide +kernel
theorem dX9_drift_45 : decode cX9_drift 45 = .ok (.aload_n 0, 1) := by decide +kernel
theorem dX9_drift_46 : decode cX9_drift 46 = .ok (.invokevirtual 201, 3) := by decide +kernel
theorem dX9_drift_49 : decode cX9_drift 49 = .ok (.iload_n 3, 1) := by decide +kernel
theorem dX9_drift_50 : decode cX9_drift 50 = .ok (.iconst 2, 1) := by decide +kernel
theorem dX9_drift_51 : decode cX9_drift 51 = .ok (.if_icmp .ge 32, 3) := by decide +kernel
theorem dX9_drift_54 : decode cX9_drift 54 = .ok (.iload 5, 2) := by decide +kernel
theorem dX9_drift_56 : decode cX9_drift 56 = .ok (.ifCond .ne 27, 3) := by decide +kernel
theorem dX9_drift_59 : decode cX9_drift 59 = .ok (.aload_n 0, 1) := by decide +kernel
theorem dX9_drift_60 : decode cX9_drift 60 = .ok (.invokevirtual 128, 3) := by decide +kernel
theorem dX9_drift_63 : decode cX9_drift 63 = .ok (.bipush 60, 2) := by decide +kernel
theorem dX9_drift_65 : decode cX9_drift 65 = .ok (.if_icmp .ge 18, 3) := by decide +kernel
theorem dX9_drift_68 : decode cX9_drift 68 = .ok (.aload_n 0, 1) := by decide +kernel
theorem dX9_drift_69 : decode cX9_drift 69 = .ok (.iload 4, 2) := by decide +kernel
theorem dX9_drift_71 : decode cX9_drift 71 = .ok (.aload_n 0, 1) := by decide +kernel
theorem dX9_drift_72 : decode cX9_drift 72 = .ok (.bipush 100, 2) := by decide +kernel
theorem dX9_drift_74 : decode cX9_drift 74 = .ok (.invokevirtual 230, 3) := by decide +kernel
theorem dX9_drift_77 : decode cX9_drift 77 = .ok (.invokevirtual 204, 3) := by decide +kernel
theorem dX9_drift_80 : decode cX9_drift 80 = .ok (.goto 23, 3) := by decide +kernel
theorem dX9_drift_83 : decode cX9_drift 83 = .ok (.iload_n 3, 1) := by decide +kernel
theorem dX9_drift_84 : decode cX9_drift 84 = .ok (.iconst 2, 1) := by decide +kernel
theorem dX9_drift_85 : decode cX9_drift 85 = .ok (.if_icmp .ne 18, 3) := by decide +kernel
theorem dX9_drift_88 : decode cX9_drift 88 = .ok (.iload 5, 2) := by decide +kernel
theorem dX9_drift_90 : decode cX9_drift 90 = .ok (.ifCond .eq 13, 3) := by decide +kernel
theorem dX9_drift_93 : decode cX9_drift 93 = .ok (.aload_n 0, 1) := by decide +kernel
theorem dX9_drift_94 : decode cX9_drift 94 = .ok (.aload_n 0, 1) := by decide +kernel
theorem dX9_drift_95 : decode cX9_drift 95 = .ok (.iload 4, 2) := by decide +kernel
theorem dX9_drift_97 : decode cX9_drift 97 = .ok (.invokevirtual 134, 3) := by decide +kernel
theorem dX9_drift_100 : decode cX9_drift 100 = .ok (.invokevirtual 137, 3) := by decide +kernel
theorem dX9_drift_103 : decode cX9_drift 103 = .ok (.iinc 2 1, 3) := by decide +kernel
theorem dX9_drift_106 : decode cX9_drift 106 = .ok (.goto (-89), 3) := by decide +kernel
theorem dX9_drift_109 : decode cX9_drift 109 = .ok (.aload_n 0, 1) := by decide +kernel
theorem dX9_drift_110 : decode cX9_drift 110 = .ok (.invokevirtual 128, 3) := by decide +kernel
theorem dX9_drift_113 : decode cX9_drift 113 = .ok (.ireturn, 1) := by decide +kernel
theorem dX9_undo_0 : decode cX9_undo 0 = .ok (.iload_n 1, 1) := by decide +kernel
theorem dX9_undo_1 : decode cX9_undo 1 = .ok (.i2l, 1) := by decide +kernel
theorem dX9_undo_2 : decode cX9_undo 2 = .ok (.lconst 1, 1) := by decide +kernel
theorem dX9_undo_3 : decode cX9_undo 3 = .ok (.ldc2_w 228, 3) := by decide +kernel
theorem dX9_undo_6 : decode cX9_undo 6 = .ok (.invokestatic 172, 3) := by decide +kernel
theorem dX9_undo_9 : decode cX9_undo 9 = .ok (.ifCond .ne 6, 3) := by decide +kernel
theorem dX9_undo_12 : decode cX9_undo 12 = .ok (.ldc 171, 2) := by decide +kernel
theorem dX9_undo_14 : decode cX9_undo 14 = .ok (.ireturn, 1) := by decide +kernel
theorem dX9_undo_15 : decode cX9_undo 15 = .ok (.iload_n 1, 1) := by decide +kernel
theorem dX9_undo_16 : decode cX9_undo 16 = .ok (.aload_n 0, 1) := by decide +kernel
theorem dX9_undo_17 : decode cX9_undo 17 = .ok (.getfield 167, 3) := by decide +kernel
theorem dX9_undo_20 : decode cX9_undo 20 = .ok (.if_icmp .le 6, 3) := by decide +kernel
theorem dX9_undo_23 : decode cX9_undo 23 = .ok (.ldc 199, 2) := by decide +kernel
theorem dX9_undo_25 : decode cX9_undo 25 = .ok (.ireturn, 1) := by decide +kernel
theorem dX9_undo_26 : decode cX9_undo 26 = .ok (.aload_n 0, 1) := by decide +kernel
theorem dX9_undo_27 : decode cX9_undo 27 = .ok (.dup, 1) := by decide +kernel
theorem dX9_undo_28 : decode cX9_undo 28 = .ok (.getfield 167, 3) := by decide +kernel
theorem dX9_undo_31 : decode cX9_undo 31 = .ok (.iload_n 1, 1) := by decide +kernel
theorem dX9_undo_32 : decode cX9_undo 32 = .ok (.isub, 1) := by decide +kernel
theorem dX9_undo_33 : decode cX9_undo 33 = .ok (.putfield 167, 3) := by decide +kernel
theorem dX9_undo_36 : decode cX9_undo 36 = .ok (.iconst 0, 1) := by decide +kernel
theorem dX9_undo_37 : decode cX9_undo 37 = .ok (.istore_n 2, 1) := by decide +kernel
theorem dX9_undo_38 : decode cX9_undo 38 = .ok (.iload_n 2, 1) := by decide +kernel
theorem dX9_undo_39 : decode cX9_undo 39 = .ok (.sipush 368, 3) := by decide +kernel
theorem dX9_undo_42 : decode cX9_undo 42 = .ok (.if_icmp .ge 30, 3) := by decide +kernel
theorem dX9_undo_45 : decode cX9_undo 45 = .ok (.aload_n 0, 1) := by decide +kernel
theorem dX9_undo_46 : decode cX9_undo 46 = .ok (.getfield 7, 3) := by decide +kernel
theorem dX9_undo_49 : decode cX9_undo 49 = .ok (.iload_n 2, 1) := by decide +kernel
theorem dX9_undo_50 : decode cX9_undo 50 = .ok (.aload_n 0, 1) := by decide +kernel
theorem dX9_undo_51 : decode cX9_undo 51 = .ok (.getfield 13, 3) := by decide +kernel
theorem dX9_undo_54 : decode cX9_undo 54 = .ok (.sipush 368, 3) := by decide +kernel
theorem dX9_undo_57 : decode cX9_undo 57 = .ok (.aload_n 0, 1) := by decide +kernel
theorem dX9_undo_58 : decode cX9_undo 58 = .ok (.getfield 167, 3) := by decide +kernel
theorem dX9_undo_61 : decode cX9_undo 61 = .ok (.imul, 1) := by decide +kernel
theorem dX9_undo_62 : decode cX9_undo 62 = .ok (.iload_n 2, 1) := by decide +kernel
theorem dX9_undo_63 : decode cX9_undo 63 = .ok (.iadd, 1) := by decide +kernel
theorem dX9_undo_64 : decode cX9_undo 64 = .ok (.iaload, 1) := by decide +kernel
theorem dX9_undo_65 : decode cX9_undo 65 = .ok (.iastore, 1) := by decide +kernel
theorem dX9_undo_66 : decode cX9_undo 66 = .ok (.iinc 2 1, 3) := by decide +kernel
theorem dX9_undo_69 : decode cX9_undo 69 = .ok (.goto (-31), 3) := by decide +kernel
theorem dX9_undo_72 : decode cX9_undo 72 = .ok (.aload_n 0, 1) := by decide +kernel
theorem dX9_undo_73 : decode cX9_undo 73 = .ok (.invokevirtual 128, 3) := by decide +kernel
theorem dX9_undo_76 : decode cX9_undo 76 = .ok (.ireturn, 1) := by decide +kernel
theorem dX9_less_0 : decode cX9_less 0 = .ok (.aload_n 0, 1) := by decide +kernel
theorem dX9_less_1 : decode cX9_less 1 = .ok (.iload_n 1, 1) := by decide +kernel
theorem dX9_less_2 : decode cX9_less 2 = .ok (.invokevirtual 186, 3) := by decide +kernel
theorem dX9_less_5 : decode cX9_less 5 = .ok (.ireturn, 1) := by decide +kernel
theorem dX9_beside_0 : decode cX9_beside 0 = .ok (.iload_n 2, 1) := by decide +kernel
theorem dX9_beside_1 : decode cX9_beside 1 = .ok (.i2l, 1) := by decide +kernel
theorem dX9_beside_2 : decode cX9_beside 2 = .ok (.lconst 0, 1) := by decide +kernel
theorem dX9_beside_3 : decode cX9_beside 3 = .ok (.lconst 1, 1) := by decide +kernel
theorem dX9_beside_4 : decode cX9_beside 4 = .ok (.invokestatic 172, 3) := by decide +kernel
theorem dX9_beside_7 : decode cX9_beside 7 = .ok (.ifCond .eq 20, 3) := by decide +kernel
theorem dX9_beside_10 : decode cX9_beside 10 = .ok (.aload_n 0, 1) := by decide +kernel
theorem dX9_beside_11 : decode cX9_beside 11 = .ok (.iload_n 1, 1) := by decide +kernel
theorem dX9_beside_12 : decode cX9_beside 12 = .ok (.iload_n 2, 1) := by decide +kernel
theorem dX9_beside_13 : decode cX9_beside 13 = .ok (.ifCond .ne 7, 3) := by decide +kernel
theorem dX9_beside_16 : decode cX9_beside 16 = .ok (.iconst 1, 1) := by decide +kernel
theorem dX9_beside_17 : decode cX9_beside 17 = .ok (.goto 4, 3) := by decide +kernel
theorem dX9_beside_20 : decode cX9_beside 20 = .ok (.iconst 0, 1) := by decide +kernel
theorem dX9_beside_21 : decode cX9_beside 21 = .ok (.invokevirtual 140, 3) := by decide +kernel
theorem dX9_beside_24 : decode cX9_beside 24 = .ok (.goto 5, 3) := by decide +kernel
theorem dX9_beside_27 : decode cX9_beside 27 = .ok (.ldc 171, 2) := by decide +kernel
theorem dX9_beside_29 : decode cX9_beside 29 = .ok (.ireturn, 1) := by decide +kernel
theorem dX9_most_0 : decode cX9_most 0 = .ok (.iconst (-1), 1) := by decide +kernel
theorem dX9_most_1 : decode cX9_most 1 = .ok (.istore_n 3, 1) := by decide +kernel
theorem dX9_most_2 : decode cX9_most 2 = .ok (.iconst (-1), 1) := by decide +kernel
theorem dX9_most_3 : decode cX9_most 3 = .ok (.istore 4, 2) := by decide +kernel
theorem dX9_most_5 : decode cX9_most 5 = .ok (.aload_n 0, 1) := by decide +kernel
theorem dX9_most_6 : decode cX9_most 6 = .ok (.iload_n 1, 1) := by decide +kernel
theorem dX9_most_7 : decode cX9_most 7 = .ok (.iconst 1, 1) := by decide +kernel
theorem dX9_most_8 : decode cX9_most 8 = .ok (.isub, 1) := by decide +kernel
theorem dX9_most_9 : decode cX9_most 9 = .ok (.iconst 0, 1) := by decide +kernel
theorem dX9_most_10 : decode cX9_most 10 = .ok (.invokevirtual 140, 3) := by decide +kernel
theorem dX9_most_13 : decode cX9_most 13 = .ok (.istore 5, 2) := by decide +kernel
theorem dX9_most_15 : decode cX9_most 15 = .ok (.iload 5, 2) := by decide +kernel
theorem dX9_most_17 : decode cX9_most 17 = .ok (.iconst (-1), 1) := by decide +kernel
theorem dX9_most_18 : decode cX9_most 18 = .ok (.if_icmp .eq 64, 3) := by decide +kernel
theorem dX9_most_21 : decode cX9_most 21 = .ok (.iload 5, 2) := by decide +kernel
theorem dX9_most_23 : decode cX9_most 23 = .ok (.iload_n 2, 1) := by decide +kernel
theorem dX9_most_24 : decode cX9_most 24 = .ok (.if_icmp .gt 58, 3) := by decide +kernel
theorem dX9_most_27 : decode cX9_most 27 = .ok (.aload_n 0, 1) := by decide +kernel
theorem dX9_most_28 : decode cX9_most 28 = .ok (.aload_n 0, 1) := by decide +kernel
theorem dX9_most_29 : decode cX9_most 29 = .ok (.iload 5, 2) := by decide +kernel
theorem dX9_most_31 : decode cX9_most 31 = .ok (.invokevirtual 134, 3) := by decide +kernel
theorem dX9_most_34 : decode cX9_most 34 = .ok (.iconst 1, 1) := by decide +kernel
theorem dX9_most_35 : decode cX9_most 35 = .ok (.invokevirtual 63, 3) := by decide +kernel
theorem dX9_most_38 : decode cX9_most 38 = .ok (.istore 6, 2) := by decide +kernel
theorem dX9_most_40 : decode cX9_most 40 = .ok (.iload 6, 2) := by decide +kernel
theorem dX9_most_42 : decode cX9_most 42 = .ok (.iload 4, 2) := by decide +kernel
theorem dX9_most_44 : decode cX9_most 44 = .ok (.if_icmp .le 8, 3) := by decide +kernel
theorem dX9_most_47 : decode cX9_most 47 = .ok (.iload 5, 2) := by decide +kernel
theorem dX9_most_49 : decode cX9_most 49 = .ok (.goto 4, 3) := by decide +kernel
theorem dX9_most_52 : decode cX9_most 52 = .ok (.iload_n 3, 1) := by decide +kernel
theorem dX9_most_53 : decode cX9_most 53 = .ok (.istore_n 3, 1) := by decide +kernel
theorem dX9_most_54 : decode cX9_most 54 = .ok (.iload 6, 2) := by decide +kernel
theorem dX9_most_56 : decode cX9_most 56 = .ok (.iload 4, 2) := by decide +kernel
theorem dX9_most_58 : decode cX9_most 58 = .ok (.if_icmp .le 8, 3) := by decide +kernel
theorem dX9_most_61 : decode cX9_most 61 = .ok (.iload 6, 2) := by decide +kernel
theorem dX9_most_63 : decode cX9_most 63 = .ok (.goto 5, 3) := by decide +kernel
theorem dX9_most_66 : decode cX9_most 66 = .ok (.iload 4, 2) := by decide +kernel
theorem dX9_most_68 : decode cX9_most 68 = .ok (.istore 4, 2) := by decide +kernel
theorem dX9_most_70 : decode cX9_most 70 = .ok (.aload_n 0, 1) := by decide +kernel
theorem dX9_most_71 : decode cX9_most 71 = .ok (.iload 5, 2) := by decide +kernel
theorem dX9_most_73 : decode cX9_most 73 = .ok (.iconst 0, 1) := by decide +kernel
theorem dX9_most_74 : decode cX9_most 74 = .ok (.invokevirtual 140, 3) := by decide +kernel
theorem dX9_most_77 : decode cX9_most 77 = .ok (.istore 5, 2) := by decide +kernel
theorem dX9_most_79 : decode cX9_most 79 = .ok (.goto (-64), 3) := by decide +kernel
theorem dX9_most_82 : decode cX9_most 82 = .ok (.iload_n 3, 1) := by decide +kernel
theorem dX9_most_83 : decode cX9_most 83 = .ok (.ireturn, 1) := by decide +kernel
theorem dX9_sumBetween_0 : decode cX9_sumBetween 0 = .ok (.iconst 0, 1) := by decide +kernel
theorem dX9_sumBetween_1 : decode cX9_sumBetween 1 = .ok (.istore 4, 2) := by decide +kernel
theorem dX9_sumBetween_3 : decode cX9_sumBetween 3 = .ok (.iconst 0, 1) := by decide +kernel
theorem dX9_sumBetween_4 : decode cX9_sumBetween 4 = .ok (.istore 5, 2) := by decide +kernel
theorem dX9_sumBetween_6 : decode cX9_sumBetween 6 = .ok (.iload 5, 2) := by decide +kernel
theorem dX9_sumBetween_8 : decode cX9_sumBetween 8 = .ok (.bipush 60, 2) := by decide +kernel
theorem dX9_sumBetween_10 : decode cX9_sumBetween 10 = .ok (.if_icmp .ge 78, 3) := by decide +kernel
theorem dX9_sumBetween_13 : decode cX9_sumBetween 13 = .ok (.aload_n 0, 1) := by decide +kernel
theorem dX9_sumBetween_14 : decode cX9_sumBetween 14 = .ok (.iload 5, 2) := by decide +kernel
theorem dX9_sumBetween_16 : decode cX9_sumBetween 16 = .ok (.iconst 0, 1) := by decide +kernel
theorem dX9_sumBetween_17 : decode cX9_sumBetween 17 = .ok (.invokevirtual 63, 3) := by decide +kernel
theorem dX9_sumBetween_20 : decode cX9_sumBetween 20 = .ok (.iconst (-1), 1) := by decide +kernel
theorem dX9_sumBetween_21 : decode cX9_sumBetween 21 = .ok (.if_icmp .eq 29, 3) := by decide +kernel
theorem dX9_sumBetween_24 : decode cX9_sumBetween 24 = .ok (.aload_n 0, 1) := by decide +kernel
theorem dX9_sumBetween_25 : decode cX9_sumBetween 25 = .ok (.iload 5, 2) := by decide +kernel
theorem dX9_sumBetween_27 : decode cX9_sumBetween 27 = .ok (.iconst 0, 1) := by decide +kernel
theorem dX9_sumBetween_28 : decode cX9_sumBetween 28 = .ok (.invokevirtual 63, 3) := by decide +kernel
theorem dX9_sumBetween_31 : decode cX9_sumBetween 31 = .ok (.iload_n 1, 1) := by decide +kernel
theorem dX9_sumBetween_32 : decode cX9_sumBetween 32 = .ok (.if_icmp .lt 18, 3) := by decide +kernel
theorem dX9_sumBetween_35 : decode cX9_sumBetween 35 = .ok (.aload_n 0, 1) := by decide +kernel
theorem dX9_sumBetween_36 : decode cX9_sumBetween 36 = .ok (.iload 5, 2) := by decide +kernel
theorem dX9_sumBetween_38 : decode cX9_sumBetween 38 = .ok (.iconst 0, 1) := by decide +kernel
theorem dX9_sumBetween_39 : decode cX9_sumBetween 39 = .ok (.invokevirtual 63, 3) := by decide +kernel
theorem dX9_sumBetween_42 : decode cX9_sumBetween 42 = .ok (.iload_n 2, 1) := by decide +kernel
theorem dX9_sumBetween_43 : decode cX9_sumBetween 43 = .ok (.if_icmp .gt 7, 3) := by decide +kernel
theorem dX9_sumBetween_46 : decode cX9_sumBetween 46 = .ok (.iconst 1, 1) := by decide +kernel
theorem dX9_sumBetween_47 : decode cX9_sumBetween 47 = .ok (.goto 4, 3) := by decide +kernel
theorem dX9_sumBetween_50 : decode cX9_sumBetween 50 = .ok (.iconst 0, 1) := by decide +kernel
theorem dX9_sumBetween_51 : decode cX9_sumBetween 51 = .ok (.istore 6, 2) := by decide +kernel
theorem dX9_sumBetween_53 : decode cX9_sumBetween 53 = .ok (.iload 4, 2) := by decide +kernel
theorem dX9_sumBetween_55 : decode cX9_sumBetween 55 = .ok (.iload 6, 2) := by decide +kernel
theorem dX9_sumBetween_57 : decode cX9_sumBetween 57 = .ok (.ifCond .eq 21, 3) := by decide +kernel
theorem dX9_sumBetween_60 : decode cX9_sumBetween 60 = .ok (.iload_n 3, 1) := by decide +kernel
theorem dX9_sumBetween_61 : decode cX9_sumBetween 61 = .ok (.ifCond .eq 13, 3) := by decide +kernel
theorem dX9_sumBetween_64 : decode cX9_sumBetween 64 = .ok (.aload_n 0, 1) := by decide +kernel
theorem dX9_sumBetween_65 : decode cX9_sumBetween 65 = .ok (.iload 5, 2) := by decide +kernel
theorem dX9_sumBetween_67 : decode cX9_sumBetween 67 = .ok (.iconst 1, 1) := by decide +kernel
theorem dX9_sumBetween_68 : decode cX9_sumBetween 68 = .ok (.invokevirtual 63, 3) := by decide +kernel
theorem dX9_sumBetween_71 : decode cX9_sumBetween 71 = .ok (.goto 8, 3) := by decide +kernel
theorem dX9_sumBetween_74 : decode cX9_sumBetween 74 = .ok (.iconst 1, 1) := by decide +kernel
theorem dX9_sumBetween_75 : decode cX9_sumBetween 75 = .ok (.goto 4, 3) := by decide +kernel
theorem dX9_sumBetween_78 : decode cX9_sumBetween 78 = .ok (.iconst 0, 1) := by decide +kernel
theorem dX9_sumBetween_79 : decode cX9_sumBetween 79 = .ok (.iadd, 1) := by decide +kernel
theorem dX9_sumBetween_80 : decode cX9_sumBetween 80 = .ok (.istore 4, 2) := by decide +kernel
theorem dX9_sumBetween_82 : decode cX9_sumBetween 82 = .ok (.iinc 5 1, 3) := by decide +kernel
theorem dX9_sumBetween_85 : decode cX9_sumBetween 85 = .ok (.goto (-79), 3) := by decide +kernel
theorem dX9_sumBetween_88 : decode cX9_sumBetween 88 = .ok (.iload 4, 2) := by decide +kernel
theorem dX9_sumBetween_90 : decode cX9_sumBetween 90 = .ok (.ireturn, 1) := by decide +kernel
theorem dX9_between_0 : decode cX9_between 0 = .ok (.iload_n 3, 1) := by decide +kernel
theorem dX9_between_1 : decode cX9_between 1 = .ok (.i2l, 1) := by decide +kernel
theorem dX9_between_2 : decode cX9_between 2 = .ok (.lconst 0, 1) := by decide +kernel
theorem dX9_between_3 : decode cX9_between 3 = .ok (.ldc2_w 233, 3) := by decide +kernel
theorem dX9_between_6 : decode cX9_between 6 = .ok (.invokestatic 172, 3) := by decide +kernel
theorem dX9_between_9 : decode cX9_between 9 = .ok (.ifCond .ne 6, 3) := by decide +kernel
theorem dX9_between_12 : decode cX9_between 12 = .ok (.ldc 171, 2) := by decide +kernel
theorem dX9_between_14 : decode cX9_between 14 = .ok (.ireturn, 1) := by decide +kernel
theorem dX9_between_15 : decode cX9_between 15 = .ok (.iload_n 3, 1) := by decide +kernel
theorem dX9_between_16 : decode cX9_between 16 = .ok (.iconst 2, 1) := by decide +kernel
theorem dX9_between_17 : decode cX9_between 17 = .ok (.if_icmp .ge 22, 3) := by decide +kernel
theorem dX9_between_20 : decode cX9_between 20 = .ok (.aload_n 0, 1) := by decide +kernel
theorem dX9_between_21 : decode cX9_between 21 = .ok (.iload_n 1, 1) := by decide +kernel
theorem dX9_between_22 : decode cX9_between 22 = .ok (.iload_n 2, 1) := by decide +kernel
theorem dX9_between_23 : decode cX9_between 23 = .ok (.iload_n 3, 1) := by decide +kernel
theorem dX9_between_24 : decode cX9_between 24 = .ok (.iconst 1, 1) := by decide +kernel
theorem dX9_between_25 : decode cX9_between 25 = .ok (.if_icmp .ne 7, 3) := by decide +kernel
theorem dX9_between_28 : decode cX9_between 28 = .ok (.iconst 1, 1) := by decide +kernel
theorem dX9_between_29 : decode cX9_between 29 = .ok (.goto 4, 3) := by decide +kernel
theorem dX9_between_32 : decode cX9_between 32 = .ok (.iconst 0, 1) := by decide +kernel
theorem dX9_between_33 : decode cX9_between 33 = .ok (.invokevirtual 235, 3) := by decide +kernel
theorem dX9_between_36 : decode cX9_between 36 = .ok (.goto 17, 3) := by decide +kernel
theorem dX9_between_39 : decode cX9_between 39 = .ok (.aload_n 0, 1) := by decide +kernel
theorem dX9_between_40 : decode cX9_between 40 = .ok (.iload_n 1, 1) := by decide +kernel
theorem dX9_between_41 : decode cX9_between 41 = .ok (.ifCond .ge 7, 3) := by decide +kernel
theorem dX9_between_44 : decode cX9_between 44 = .ok (.iconst 0, 1) := by decide +kernel
theorem dX9_between_45 : decode cX9_between 45 = .ok (.goto 4, 3) := by decide +kernel
theorem dX9_between_48 : decode cX9_between 48 = .ok (.iload_n 1, 1) := by decide +kernel
theorem dX9_between_49 : decode cX9_between 49 = .ok (.iload_n 2, 1) := by decide +kernel
theorem dX9_between_50 : decode cX9_between 50 = .ok (.invokevirtual 239, 3) := by decide +kernel
theorem dX9_between_53 : decode cX9_between 53 = .ok (.ireturn, 1) := by decide +kernel
theorem dX9_way_0 : decode cX9_way 0 = .ok (.iload_n 1, 1) := by decide +kernel
theorem dX9_way_1 : decode cX9_way 1 = .ok (.ifCond .lt 11, 3) := by decide +kernel
theorem dX9_way_4 : decode cX9_way 4 = .ok (.aload_n 0, 1) := by decide +kernel
theorem dX9_way_5 : decode cX9_way 5 = .ok (.iload_n 1, 1) := by decide +kernel
theorem dX9_way_6 : decode cX9_way 6 = .ok (.invokevirtual 196, 3) := by decide +kernel
theorem dX9_way_9 : decode cX9_way 9 = .ok (.ifCond .ne 6, 3) := by decide +kernel
theorem dX9_way_12 : decode cX9_way 12 = .ok (.ldc 179, 2) := by decide +kernel
theorem dX9_way_14 : decode cX9_way 14 = .ok (.ireturn, 1) := by decide +kernel
theorem dX9_way_15 : decode cX9_way 15 = .ok (.iload_n 2, 1) := by decide +kernel
theorem dX9_way_16 : decode cX9_way 16 = .ok (.ifCond .ge 5, 3) := by decide +kernel
theorem dX9_way_19 : decode cX9_way 19 = .ok (.iconst (-1), 1) := by decide +kernel
theorem dX9_way_20 : decode cX9_way 20 = .ok (.ireturn, 1) := by decide +kernel
theorem dX9_way_21 : decode cX9_way 21 = .ok (.aload_n 0, 1) := by decide +kernel
theorem dX9_way_22 : decode cX9_way 22 = .ok (.invokevirtual 87, 3) := by decide +kernel
theorem dX9_way_25 : decode cX9_way 25 = .ok (.istore_n 3, 1) := by decide +kernel
theorem dX9_way_26 : decode cX9_way 26 = .ok (.iconst 0, 1) := by decide +kernel
theorem dX9_way_27 : decode cX9_way 27 = .ok (.istore 4, 2) := by decide +kernel
theorem dX9_way_29 : decode cX9_way 29 = .ok (.iload 4, 2) := by decide +kernel
theorem dX9_way_31 : decode cX9_way 31 = .ok (.iload_n 2, 1) := by decide +kernel
theorem dX9_way_32 : decode cX9_way 32 = .ok (.if_icmp .ge 40, 3) := by decide +kernel
theorem dX9_way_35 : decode cX9_way 35 = .ok (.aload_n 0, 1) := by decide +kernel
theorem dX9_way_36 : decode cX9_way 36 = .ok (.iload_n 3, 1) := by decide +kernel
theorem dX9_way_37 : decode cX9_way 37 = .ok (.iconst 0, 1) := by decide +kernel
theorem dX9_way_38 : decode cX9_way 38 = .ok (.invokevirtual 63, 3) := by decide +kernel
theorem dX9_way_41 : decode cX9_way 41 = .ok (.iload_n 1, 1) := by decide +kernel
theorem dX9_way_42 : decode cX9_way 42 = .ok (.if_icmp .eq 30, 3) := by decide +kernel
theorem dX9_way_45 : decode cX9_way 45 = .ok (.aload_n 0, 1) := by decide +kernel
theorem dX9_way_46 : decode cX9_way 46 = .ok (.iload_n 3, 1) := by decide +kernel
theorem dX9_way_47 : decode cX9_way 47 = .ok (.iload_n 1, 1) := by decide +kernel
theorem dX9_way_48 : decode cX9_way 48 = .ok (.aload_n 0, 1) := by decide +kernel
theorem dX9_way_49 : decode cX9_way 49 = .ok (.iload_n 3, 1) := by decide +kernel
theorem dX9_way_50 : decode cX9_way 50 = .ok (.iconst 0, 1) := by decide +kernel
theorem dX9_way_51 : decode cX9_way 51 = .ok (.invokevirtual 63, 3) := by decide +kernel
theorem dX9_way_54 : decode cX9_way 54 = .ok (.if_icmp .ge 7, 3) := by decide +kernel
theorem dX9_way_57 : decode cX9_way 57 = .ok (.iconst 1, 1) := by decide +kernel
theorem dX9_way_58 : decode cX9_way 58 = .ok (.goto 4, 3) := by decide +kernel
theorem dX9_way_61 : decode cX9_way 61 = .ok (.iconst 0, 1) := by decide +kernel
theorem dX9_way_62 : decode cX9_way 62 = .ok (.invokevirtual 71, 3) := by decide +kernel
theorem dX9_way_65 : decode cX9_way 65 = .ok (.istore_n 3, 1) := by decide +kernel
theorem dX9_way_66 : decode cX9_way 66 = .ok (.iinc 4 1, 3) := by decide +kernel
theorem dX9_way_69 : decode cX9_way 69 = .ok (.goto (-40), 3) := by decide +kernel
theorem dX9_way_72 : decode cX9_way 72 = .ok (.iload 4, 2) := by decide +kernel
theorem dX9_way_74 : decode cX9_way 74 = .ok (.iload_n 2, 1) := by decide +kernel
theorem dX9_way_75 : decode cX9_way 75 = .ok (.if_icmp .ne 12, 3) := by decide +kernel
theorem dX9_way_78 : decode cX9_way 78 = .ok (.aload_n 0, 1) := by decide +kernel
theorem dX9_way_79 : decode cX9_way 79 = .ok (.iload_n 3, 1) := by decide +kernel
theorem dX9_way_80 : decode cX9_way 80 = .ok (.iconst 0, 1) := by decide +kernel
theorem dX9_way_81 : decode cX9_way 81 = .ok (.invokevirtual 63, 3) := by decide +kernel
theorem dX9_way_84 : decode cX9_way 84 = .ok (.goto 4, 3) := by decide +kernel
theorem dX9_way_87 : decode cX9_way 87 = .ok (.iconst (-1), 1) := by decide +kernel
theorem dX9_way_88 : decode cX9_way 88 = .ok (.ireturn, 1) := by decide +kernel
theorem dX9_rankWith_0 : decode cX9_rankWith 0 = .ok (.iload_n 1, 1) := by decide +kernel
theorem dX9_rankWith_1 : decode cX9_rankWith 1 = .ok (.iconst (-1), 1) := by decide +kernel
theorem dX9_rankWith_2 : decode cX9_rankWith 2 = .ok (.if_icmp .ne 7, 3) := by decide +kernel
theorem dX9_rankWith_5 : decode cX9_rankWith 5 = .ok (.iconst (-1), 1) := by decide +kernel
theorem dX9_rankWith_6 : decode cX9_rankWith 6 = .ok (.goto 18, 3) := by decide +kernel
theorem dX9_rankWith_9 : decode cX9_rankWith 9 = .ok (.iload_n 1, 1) := by decide +kernel
theorem dX9_rankWith_10 : decode cX9_rankWith 10 = .ok (.iload_n 2, 1) := by decide +kernel
theorem dX9_rankWith_11 : decode cX9_rankWith 11 = .ok (.if_icmp .ne 7, 3) := by decide +kernel
theorem dX9_rankWith_14 : decode cX9_rankWith 14 = .ok (.iload_n 3, 1) := by decide +kernel
theorem dX9_rankWith_15 : decode cX9_rankWith 15 = .ok (.goto 9, 3) := by decide +kernel
theorem dX9_rankWith_18 : decode cX9_rankWith 18 = .ok (.aload_n 0, 1) := by decide +kernel
theorem dX9_rankWith_19 : decode cX9_rankWith 19 = .ok (.iload_n 1, 1) := by decide +kernel
theorem dX9_rankWith_20 : decode cX9_rankWith 20 = .ok (.iconst 2, 1) := by decide +kernel
theorem dX9_rankWith_21 : decode cX9_rankWith 21 = .ok (.invokevirtual 63, 3) := by decide +kernel
theorem dX9_rankWith_24 : decode cX9_rankWith 24 = .ok (.ireturn, 1) := by decide +kernel
theorem dX9_audit_0 : decode cX9_audit 0 = .ok (.aload_n 0, 1) := by decide +kernel
theorem dX9_audit_1 : decode cX9_audit 1 = .ok (.iload_n 1, 1) := by decide +kernel
theorem dX9_audit_2 : decode cX9_audit 2 = .ok (.invokevirtual 176, 3) := by decide +kernel
theorem dX9_audit_5 : decode cX9_audit 5 = .ok (.ifCond .ne 6, 3) := by decide +kernel
theorem dX9_audit_8 : decode cX9_audit 8 = .ok (.ldc 179, 2) := by decide +kernel
theorem dX9_audit_10 : decode cX9_audit 10 = .ok (.ireturn, 1) := by decide +kernel
theorem dX9_audit_11 : decode cX9_audit 11 = .ok (.iload_n 2, 1) := by decide +kernel
theorem dX9_audit_12 : decode cX9_audit 12 = .ok (.i2l, 1) := by decide +kernel
theorem dX9_audit_13 : decode cX9_audit 13 = .ok (.ldc2_w 242, 3) := by decide +kernel
theorem dX9_audit_16 : decode cX9_audit 16 = .ok (.ldc2_w 209, 3) := by decide +kernel
theorem dX9_audit_19 : decode cX9_audit 19 = .ok (.invokestatic 172, 3) := by decide +kernel
theorem dX9_audit_22 : decode cX9_audit 22 = .ok (.ifCond .ne 6, 3) := by decide +kernel
theorem dX9_audit_25 : decode cX9_audit 25 = .ok (.ldc 171, 2) := by decide +kernel
theorem dX9_audit_27 : decode cX9_audit 27 = .ok (.ireturn, 1) := by decide +kernel
theorem dX9_audit_28 : decode cX9_audit 28 = .ok (.aload_n 0, 1) := by decide +kernel
theorem dX9_audit_29 : decode cX9_audit 29 = .ok (.invokevirtual 131, 3) := by decide +kernel
theorem dX9_audit_32 : decode cX9_audit 32 = .ok (.aload_n 0, 1) := by decide +kernel
theorem dX9_audit_33 : decode cX9_audit 33 = .ok (.getfield 26, 3) := by decide +kernel
theorem dX9_audit_36 : decode cX9_audit 36 = .ok (.iload_n 1, 1) := by decide +kernel
theorem dX9_audit_37 : decode cX9_audit 37 = .ok (.iaload, 1) := by decide +kernel
theorem dX9_audit_38 : decode cX9_audit 38 = .ok (.istore_n 3, 1) := by decide +kernel
theorem dX9_audit_39 : decode cX9_audit 39 = .ok (.iconst 0, 1) := by decide +kernel
theorem dX9_audit_40 : decode cX9_audit 40 = .ok (.istore 4, 2) := by decide +kernel
theorem dX9_audit_42 : decode cX9_audit 42 = .ok (.iload 4, 2) := by decide +kernel
theorem dX9_audit_44 : decode cX9_audit 44 = .ok (.aload_n 0, 1) := by decide +kernel
theorem dX9_audit_45 : decode cX9_audit 45 = .ok (.invokevirtual 128, 3) := by decide +kernel
theorem dX9_audit_48 : decode cX9_audit 48 = .ok (.if_icmp .ge 111, 3) := by decide +kernel
theorem dX9_audit_51 : decode cX9_audit 51 = .ok (.aload_n 0, 1) := by decide +kernel
theorem dX9_audit_52 : decode cX9_audit 52 = .ok (.getfield 26, 3) := by decide +kernel
theorem dX9_audit_55 : decode cX9_audit 55 = .ok (.iload 4, 2) := by decide +kernel
theorem dX9_audit_57 : decode cX9_audit 57 = .ok (.iaload, 1) := by decide +kernel
theorem dX9_audit_58 : decode cX9_audit 58 = .ok (.istore 5, 2) := by decide +kernel
theorem dX9_audit_60 : decode cX9_audit 60 = .ok (.aload_n 0, 1) := by decide +kernel
theorem dX9_audit_61 : decode cX9_audit 61 = .ok (.iload 5, 2) := by decide +kernel
theorem dX9_audit_63 : decode cX9_audit 63 = .ok (.iload_n 3, 1) := by decide +kernel
theorem dX9_audit_64 : decode cX9_audit 64 = .ok (.iload_n 2, 1) := by decide +kernel
theorem dX9_audit_65 : decode cX9_audit 65 = .ok (.invokevirtual 244, 3) := by decide +kernel
theorem dX9_audit_68 : decode cX9_audit 68 = .ok (.istore 6, 2) := by decide +kernel
theorem dX9_audit_70 : decode cX9_audit 70 = .ok (.iload 6, 2) := by decide +kernel
theorem dX9_audit_72 : decode cX9_audit 72 = .ok (.aload_n 0, 1) := by decide +kernel
theorem dX9_audit_73 : decode cX9_audit 73 = .ok (.aload_n 0, 1) := by decide +kernel
theorem dX9_audit_74 : decode cX9_audit 74 = .ok (.iload 5, 2) := by decide +kernel
theorem dX9_audit_76 : decode cX9_audit 76 = .ok (.iconst 3, 1) := by decide +kernel
theorem dX9_audit_77 : decode cX9_audit 77 = .ok (.invokevirtual 63, 3) := by decide +kernel
theorem dX9_audit_80 : decode cX9_audit 80 = .ok (.iload_n 3, 1) := by decide +kernel
theorem dX9_audit_81 : decode cX9_audit 81 = .ok (.iload_n 2, 1) := by decide +kernel
theorem dX9_audit_82 : decode cX9_audit 82 = .ok (.invokevirtual 244, 3) := by decide +kernel
theorem dX9_audit_85 : decode cX9_audit 85 = .ok (.isub, 1) := by decide +kernel
theorem dX9_audit_86 : decode cX9_audit 86 = .ok (.i2l, 1) := by decide +kernel
theorem dX9_audit_87 : decode cX9_audit 87 = .ok (.lconst 1, 1) := by decide +kernel
theorem dX9_audit_88 : decode cX9_audit 88 = .ok (.ldc2_w 233, 3) := by decide +kernel
theorem dX9_audit_91 : decode cX9_audit 91 = .ok (.invokestatic 172, 3) := by decide +kernel
theorem dX9_audit_94 : decode cX9_audit 94 = .ok (.ifCond .eq 34, 3) := by decide +kernel
theorem dX9_audit_97 : decode cX9_audit 97 = .ok (.iload 6, 2) := by decide +kernel
theorem dX9_audit_99 : decode cX9_audit 99 = .ok (.aload_n 0, 1) := by decide +kernel
theorem dX9_audit_100 : decode cX9_audit 100 = .ok (.aload_n 0, 1) := by decide +kernel
theorem dX9_audit_101 : decode cX9_audit 101 = .ok (.iload 5, 2) := by decide +kernel
theorem dX9_audit_103 : decode cX9_audit 103 = .ok (.iconst 4, 1) := by decide +kernel
theorem dX9_audit_104 : decode cX9_audit 104 = .ok (.invokevirtual 63, 3) := by decide +kernel
theorem dX9_audit_107 : decode cX9_audit 107 = .ok (.iload_n 3, 1) := by decide +kernel
theorem dX9_audit_108 : decode cX9_audit 108 = .ok (.iload_n 2, 1) := by decide +kernel
theorem dX9_audit_109 : decode cX9_audit 109 = .ok (.invokevirtual 244, 3) := by decide +kernel
theorem dX9_audit_112 : decode cX9_audit 112 = .ok (.isub, 1) := by decide +kernel
theorem dX9_audit_113 : decode cX9_audit 113 = .ok (.i2l, 1) := by decide +kernel
theorem dX9_audit_114 : decode cX9_audit 114 = .ok (.lconst 1, 1) := by decide +kernel
theorem dX9_audit_115 : decode cX9_audit 115 = .ok (.ldc2_w 233, 3) := by decide +kernel
theorem dX9_audit_118 : decode cX9_audit 118 = .ok (.invokestatic 172, 3) := by decide +kernel
theorem dX9_audit_121 : decode cX9_audit 121 = .ok (.ifCond .eq 7, 3) := by decide +kernel
theorem dX9_audit_124 : decode cX9_audit 124 = .ok (.iconst 1, 1) := by decide +kernel
theorem dX9_audit_125 : decode cX9_audit 125 = .ok (.goto 4, 3) := by decide +kernel
theorem dX9_audit_128 : decode cX9_audit 128 = .ok (.iconst 0, 1) := by decide +kernel
theorem dX9_audit_129 : decode cX9_audit 129 = .ok (.istore 7, 2) := by decide +kernel
theorem dX9_audit_131 : decode cX9_audit 131 = .ok (.iload 7, 2) := by decide +kernel
theorem dX9_audit_133 : decode cX9_audit 133 = .ok (.ifCond .eq 17, 3) := by decide +kernel
theorem dX9_audit_136 : decode cX9_audit 136 = .ok (.aload_n 0, 1) := by decide +kernel
theorem dX9_audit_137 : decode cX9_audit 137 = .ok (.iload 5, 2) := by decide +kernel
theorem dX9_audit_139 : decode cX9_audit 139 = .ok (.invokevirtual 116, 3) := by decide +kernel
theorem dX9_audit_142 : decode cX9_audit 142 = .ok (.ifCond .eq 11, 3) := by decide +kernel
theorem dX9_audit_145 : decode cX9_audit 145 = .ok (.iload 6, 2) := by decide +kernel
theorem dX9_audit_147 : decode cX9_audit 147 = .ok (.ifCond .eq 6, 3) := by decide +kernel
theorem dX9_audit_150 : decode cX9_audit 150 = .ok (.iload 4, 2) := by decide +kernel
theorem dX9_audit_152 : decode cX9_audit 152 = .ok (.ireturn, 1) := by decide +kernel
theorem dX9_audit_153 : decode cX9_audit 153 = .ok (.iinc 4 1, 3) := by decide +kernel
theorem dX9_audit_156 : decode cX9_audit 156 = .ok (.goto (-114), 3) := by decide +kernel
theorem dX9_audit_159 : decode cX9_audit 159 = .ok (.iconst (-1), 1) := by decide +kernel
theorem dX9_audit_160 : decode cX9_audit 160 = .ok (.ireturn, 1) := by decide +kernel
theorem dX9_seed_0 : decode cX9_seed 0 = .ok (.iload_n 1, 1) := by decide +kernel
theorem dX9_seed_1 : decode cX9_seed 1 = .ok (.ifCond .ge 6, 3) := by decide +kernel
theorem dX9_seed_4 : decode cX9_seed 4 = .ok (.ldc 171, 2) := by decide +kernel
theorem dX9_seed_6 : decode cX9_seed 6 = .ok (.ireturn, 1) := by decide +kernel
theorem dX9_seed_7 : decode cX9_seed 7 = .ok (.aload_n 0, 1) := by decide +kernel
theorem dX9_seed_8 : decode cX9_seed 8 = .ok (.getfield 218, 3) := by decide +kernel
theorem dX9_seed_11 : decode cX9_seed 11 = .ok (.istore_n 2, 1) := by decide +kernel
theorem dX9_seed_12 : decode cX9_seed 12 = .ok (.aload_n 0, 1) := by decide +kernel
theorem dX9_seed_13 : decode cX9_seed 13 = .ok (.iload_n 1, 1) := by decide +kernel
theorem dX9_seed_14 : decode cX9_seed 14 = .ok (.putfield 218, 3) := by decide +kernel
theorem dX9_seed_17 : decode cX9_seed 17 = .ok (.iload_n 2, 1) := by decide +kernel
theorem dX9_seed_18 : decode cX9_seed 18 = .ok (.ireturn, 1) := by decide +kernel
theorem dX9_keep_0 : decode cX9_keep 0 = .ok (.iload_n 1, 1) := by decide +kernel
theorem dX9_keep_1 : decode cX9_keep 1 = .ok (.i2l, 1) := by decide +kernel
theorem dX9_keep_2 : decode cX9_keep 2 = .ok (.lconst 0, 1) := by decide +kernel
theorem dX9_keep_3 : decode cX9_keep 3 = .ok (.lconst 1, 1) := by decide +kernel
theorem dX9_keep_4 : decode cX9_keep 4 = .ok (.invokestatic 172, 3) := by decide +kernel
theorem dX9_keep_7 : decode cX9_keep 7 = .ok (.ifCond .ne 6, 3) := by decide +kernel
theorem dX9_keep_10 : decode cX9_keep 10 = .ok (.ldc 179, 2) := by decide +kernel
theorem dX9_keep_12 : decode cX9_keep 12 = .ok (.ireturn, 1) := by decide +kernel
theorem dX9_keep_13 : decode cX9_keep 13 = .ok (.iconst 0, 1) := by decide +kernel
theorem dX9_keep_14 : decode cX9_keep 14 = .ok (.istore_n 2, 1) := by decide +kernel
theorem dX9_keep_15 : decode cX9_keep 15 = .ok (.iload_n 2, 1) := by decide +kernel
theorem dX9_keep_16 : decode cX9_keep 16 = .ok (.sipush 368, 3) := by decide +kernel
theorem dX9_keep_19 : decode cX9_keep 19 = .ok (.if_icmp .ge 27, 3) := by decide +kernel
theorem dX9_keep_22 : decode cX9_keep 22 = .ok (.aload_n 0, 1) := by decide +kernel
theorem dX9_keep_23 : decode cX9_keep 23 = .ok (.getfield 16, 3) := by decide +kernel
theorem dX9_keep_26 : decode cX9_keep 26 = .ok (.sipush 368, 3) := by decide +kernel
theorem dX9_keep_29 : decode cX9_keep 29 = .ok (.iload_n 1, 1) := by decide +kernel
theorem dX9_keep_30 : decode cX9_keep 30 = .ok (.imul, 1) := by decide +kernel
theorem dX9_keep_31 : decode cX9_keep 31 = .ok (.iload_n 2, 1) := by decide +kernel
theorem dX9_keep_32 : decode cX9_keep 32 = .ok (.iadd, 1) := by decide +kernel
theorem dX9_keep_33 : decode cX9_keep 33 = .ok (.aload_n 0, 1) := by decide +kernel
theorem dX9_keep_34 : decode cX9_keep 34 = .ok (.getfield 7, 3) := by decide +kernel
theorem dX9_keep_37 : decode cX9_keep 37 = .ok (.iload_n 2, 1) := by decide +kernel
theorem dX9_keep_38 : decode cX9_keep 38 = .ok (.iaload, 1) := by decide +kernel
theorem dX9_keep_39 : decode cX9_keep 39 = .ok (.iastore, 1) := by decide +kernel
theorem dX9_keep_40 : decode cX9_keep 40 = .ok (.iinc 2 1, 3) := by decide +kernel
theorem dX9_keep_43 : decode cX9_keep 43 = .ok (.goto (-28), 3) := by decide +kernel
theorem dX9_keep_46 : decode cX9_keep 46 = .ok (.aload_n 0, 1) := by decide +kernel
theorem dX9_keep_47 : decode cX9_keep 47 = .ok (.getfield 19, 3) := by decide +kernel
theorem dX9_keep_50 : decode cX9_keep 50 = .ok (.iload_n 1, 1) := by decide +kernel
theorem dX9_keep_51 : decode cX9_keep 51 = .ok (.aload_n 0, 1) := by decide +kernel
theorem dX9_keep_52 : decode cX9_keep 52 = .ok (.getfield 218, 3) := by decide +kernel
theorem dX9_keep_55 : decode cX9_keep 55 = .ok (.iastore, 1) := by decide +kernel
theorem dX9_keep_56 : decode cX9_keep 56 = .ok (.aload_n 0, 1) := by decide +kernel
theorem dX9_keep_57 : decode cX9_keep 57 = .ok (.getfield 22, 3) := by decide +kernel
theorem dX9_keep_60 : decode cX9_keep 60 = .ok (.iload_n 1, 1) := by decide +kernel
theorem dX9_keep_61 : decode cX9_keep 61 = .ok (.iconst 1, 1) := by decide +kernel
theorem dX9_keep_62 : decode cX9_keep 62 = .ok (.bastore, 1) := by decide +kernel
theorem dX9_keep_63 : decode cX9_keep 63 = .ok (.aload_n 0, 1) := by decide +kernel
theorem dX9_keep_64 : decode cX9_keep 64 = .ok (.iconst 0, 1) := by decide +kernel
theorem dX9_keep_65 : decode cX9_keep 65 = .ok (.putfield 167, 3) := by decide +kernel
theorem dX9_keep_68 : decode cX9_keep 68 = .ok (.iconst 1, 1) := by decide +kernel
theorem dX9_keep_69 : decode cX9_keep 69 = .ok (.ireturn, 1) := by decide +kernel
theorem dX9_goBack_0 : decode cX9_goBack 0 = .ok (.iload_n 1, 1) := by decide +kernel
theorem dX9_goBack_1 : decode cX9_goBack 1 = .ok (.i2l, 1) := by decide +kernel
theorem dX9_goBack_2 : decode cX9_goBack 2 = .ok (.lconst 0, 1) := by decide +kernel
theorem dX9_goBack_3 : decode cX9_goBack 3 = .ok (.lconst 1, 1) := by decide +kernel
theorem dX9_goBack_4 : decode cX9_goBack 4 = .ok (.invokestatic 172, 3) := by decide +kernel
theorem dX9_goBack_7 : decode cX9_goBack 7 = .ok (.ifCond .ne 6, 3) := by decide +kernel
theorem dX9_goBack_10 : decode cX9_goBack 10 = .ok (.ldc 179, 2) := by decide +kernel
theorem dX9_goBack_12 : decode cX9_goBack 12 = .ok (.ireturn, 1) := by decide +kernel
theorem dX9_goBack_13 : decode cX9_goBack 13 = .ok (.aload_n 0, 1) := by decide +kernel
theorem dX9_goBack_14 : decode cX9_goBack 14 = .ok (.getfield 22, 3) := by decide +kernel
theorem dX9_goBack_17 : decode cX9_goBack 17 = .ok (.iload_n 1, 1) := by decide +kernel
theorem dX9_goBack_18 : decode cX9_goBack 18 = .ok (.baload, 1) := by decide +kernel
theorem dX9_goBack_19 : decode cX9_goBack 19 = .ok (.ifCond .ne 6, 3) := by decide +kernel
theorem dX9_goBack_22 : decode cX9_goBack 22 = .ok (.ldc 199, 2) := by decide +kernel
theorem dX9_goBack_24 : decode cX9_goBack 24 = .ok (.ireturn, 1) := by decide +kernel
theorem dX9_goBack_25 : decode cX9_goBack 25 = .ok (.iconst 0, 1) := by decide +kernel
theorem dX9_goBack_26 : decode cX9_goBack 26 = .ok (.istore_n 2, 1) := by decide +kernel
theorem dX9_goBack_27 : decode cX9_goBack 27 = .ok (.iload_n 2, 1) := by decide +kernel
theorem dX9_goBack_28 : decode cX9_goBack 28 = .ok (.sipush 368, 3) := by decide +kernel
theorem dX9_goBack_31 : decode cX9_goBack 31 = .ok (.if_icmp .ge 27, 3) := by decide +kernel
theorem dX9_goBack_34 : decode cX9_goBack 34 = .ok (.aload_n 0, 1) := by decide +kernel
theorem dX9_goBack_35 : decode cX9_goBack 35 = .ok (.getfield 7, 3) := by decide +kernel
theorem dX9_goBack_38 : decode cX9_goBack 38 = .ok (.iload_n 2, 1) := by decide +kernel
theorem dX9_goBack_39 : decode cX9_goBack 39 = .ok (.aload_n 0, 1) := by decide +kernel
theorem dX9_goBack_40 : decode cX9_goBack 40 = .ok (.getfield 16, 3) := by decide +kernel
theorem dX9_goBack_43 : decode cX9_goBack 43 = .ok (.sipush 368, 3) := by decide +kernel
theorem dX9_goBack_46 : decode cX9_goBack 46 = .ok (.iload_n 1, 1) := by decide +kernel
theorem dX9_goBack_47 : decode cX9_goBack 47 = .ok (.imul, 1) := by decide +kernel
theorem dX9_goBack_48 : decode cX9_goBack 48 = .ok (.iload_n 2, 1) := by decide +kernel
theorem dX9_goBack_49 : decode cX9_goBack 49 = .ok (.iadd, 1) := by decide +kernel
theorem dX9_goBack_50 : decode cX9_goBack 50 = .ok (.iaload, 1) := by decide +kernel
theorem dX9_goBack_51 : decode cX9_goBack 51 = .ok (.iastore, 1) := by decide +kernel
theorem dX9_goBack_52 : decode cX9_goBack 52 = .ok (.iinc 2 1, 3) := by decide +kernel
theorem dX9_goBack_55 : decode cX9_goBack 55 = .ok (.goto (-28), 3) := by decide +kernel
theorem dX9_goBack_58 : decode cX9_goBack 58 = .ok (.aload_n 0, 1) := by decide +kernel
theorem dX9_goBack_59 : decode cX9_goBack 59 = .ok (.aload_n 0, 1) := by decide +kernel
theorem dX9_goBack_60 : decode cX9_goBack 60 = .ok (.getfield 19, 3) := by decide +kernel
theorem dX9_goBack_63 : decode cX9_goBack 63 = .ok (.iload_n 1, 1) := by decide +kernel
theorem dX9_goBack_64 : decode cX9_goBack 64 = .ok (.iaload, 1) := by decide +kernel
theorem dX9_goBack_65 : decode cX9_goBack 65 = .ok (.putfield 218, 3) := by decide +kernel
theorem dX9_goBack_68 : decode cX9_goBack 68 = .ok (.aload_n 0, 1) := by decide +kernel
theorem dX9_goBack_69 : decode cX9_goBack 69 = .ok (.iconst 0, 1) := by decide +kernel
theorem dX9_goBack_70 : decode cX9_goBack 70 = .ok (.putfield 167, 3) := by decide +kernel
theorem dX9_goBack_73 : decode cX9_goBack 73 = .ok (.iconst 1, 1) := by decide +kernel
theorem dX9_goBack_74 : decode cX9_goBack 74 = .ok (.ireturn, 1) := by decide +kernel
theorem dJ9_max_7cf53_0 : decode cJ9_max_7cf53 0 = .ok (.iload_n 0, 1) := by decide +kernel
theorem dJ9_max_7cf53_1 : decode cJ9_max_7cf53 1 = .ok (.iload_n 1, 1) := by decide +kernel
theorem dJ9_max_7cf53_2 : decode cJ9_max_7cf53 2 = .ok (.if_icmp .lt 7, 3) := by decide +kernel
theorem dJ9_max_7cf53_5 : decode cJ9_max_7cf53 5 = .ok (.iload_n 0, 1) := by decide +kernel
theorem dJ9_max_7cf53_6 : decode cJ9_max_7cf53 6 = .ok (.goto 4, 3) := by decide +kernel
theorem dJ9_max_7cf53_9 : decode cJ9_max_7cf53 9 = .ok (.iload_n 1, 1) := by decide +kernel
theorem dJ9_max_7cf53_10 : decode cJ9_max_7cf53 10 = .ok (.ireturn, 1) := by decide +kernel
theorem dJ9_min_7cf53_0 : decode cJ9_min_7cf53 0 = .ok (.iload_n 0, 1) := by decide +kernel
theorem dJ9_min_7cf53_1 : decode cJ9_min_7cf53 1 = .ok (.iload_n 1, 1) := by decide +kernel
theorem dJ9_min_7cf53_2 : decode cJ9_min_7cf53 2 = .ok (.if_icmp .gt 7, 3) := by decide +kernel
theorem dJ9_min_7cf53_5 : decode cJ9_min_7cf53 5 = .ok (.iload_n 0, 1) := by decide +kernel
theorem dJ9_min_7cf53_6 : decode cJ9_min_7cf53 6 = .ok (.goto 4, 3) := by decide +kernel
theorem dJ9_min_7cf53_9 : decode cJ9_min_7cf53 9 = .ok (.iload_n 1, 1) := by decide +kernel
theorem dJ9_min_7cf53_10 : decode cJ9_min_7cf53 10 = .ok (.ireturn, 1) := by decide +kernel
theorem dJ7_fill_53178_0 : decode cJ7_fill_53178 0 = .ok (.iconst 0, 1) := by decide +kernel
theorem dJ7_fill_53178_1 : decode cJ7_fill_53178 1 = .ok (.istore_n 2, 1) := by decide +kernel
theorem dJ7_fill_53178_2 : decode cJ7_fill_53178 2 = .ok (.aload_n 0, 1) := by decide +kernel
theorem dJ7_fill_53178_3 : decode cJ7_fill_53178 3 = .ok (.arraylength, 1) := by decide +kernel
theorem dJ7_fill_53178_4 : decode cJ7_fill_53178 4 = .ok (.istore_n 3, 1) := by decide +kernel
theorem dJ7_fill_53178_5 : decode cJ7_fill_53178 5 = .ok (.iload_n 2, 1) := by decide +kernel
theorem dJ7_fill_53178_6 : decode cJ7_fill_53178 6 = .ok (.iload_n 3, 1) := by decide +kernel
theorem dJ7_fill_53178_7 : decode cJ7_fill_53178 7 = .ok (.if_icmp .ge 13, 3) := by decide +kernel
theorem dJ7_fill_53178_10 : decode cJ7_fill_53178 10 = .ok (.aload_n 0, 1) := by decide +kernel
theorem dJ7_fill_53178_11 : decode cJ7_fill_53178 11 = .ok (.iload_n 2, 1) := by decide +kernel
theorem dJ7_fill_53178_12 : decode cJ7_fill_53178 12 = .ok (.iload_n 1, 1) := by decide +kernel
theorem dJ7_fill_53178_13 : decode cJ7_fill_53178 13 = .ok (.iastore, 1) := by decide +kernel
theorem dJ7_fill_53178_14 : decode cJ7_fill_53178 14 = .ok (.iinc 2 1, 3) := by decide +kernel
theorem dJ7_fill_53178_17 : decode cJ7_fill_53178 17 = .ok (.goto (-12), 3) := by decide +kernel
theorem dJ7_fill_53178_20 : decode cJ7_fill_53178 20 = .ok (.return_, 1) := by decide +kernel
theorem dL_law_0 : decode cL_law 0 = .ok (.new 7, 3) := by decide +kernel
theorem dL_law_3 : decode cL_law 3 = .ok (.dup, 1) := by decide +kernel
theorem dL_law_4 : decode cL_law 4 = .ok (.invokespecial 9, 3) := by decide +kernel
theorem dL_law_7 : decode cL_law 7 = .ok (.astore_n 1, 1) := by decide +kernel
theorem dL_law_8 : decode cL_law 8 = .ok (.new 10, 3) := by decide +kernel
theorem dL_law_11 : decode cL_law 11 = .ok (.dup, 1) := by decide +kernel
theorem dL_law_12 : decode cL_law 12 = .ok (.invokespecial 12, 3) := by decide +kernel
theorem dL_law_15 : decode cL_law 15 = .ok (.astore_n 2, 1) := by decide +kernel
theorem dL_law_16 : decode cL_law 16 = .ok (.iconst 0, 1) := by decide +kernel
theorem dL_law_17 : decode cL_law 17 = .ok (.istore_n 3, 1) := by decide +kernel
theorem dL_law_18 : decode cL_law 18 = .ok (.iload_n 3, 1) := by decide +kernel
theorem dL_law_19 : decode cL_law 19 = .ok (.aload_n 0, 1) := by decide +kernel
theorem dL_law_20 : decode cL_law 20 = .ok (.arraylength, 1) := by decide +kernel
theorem dL_law_21 : decode cL_law 21 = .ok (.iconst 4, 1) := by decide +kernel
theorem dL_law_22 : decode cL_law 22 = .ok (.isub, 1) := by decide +kernel
theorem dL_law_23 : decode cL_law 23 = .ok (.if_icmp .gt 698, 3) := by decide +kernel
theorem dL_law_26 : decode cL_law 26 = .ok (.aload_n 0, 1) := by decide +kernel
theorem dL_law_27 : decode cL_law 27 = .ok (.iload_n 3, 1) := by decide +kernel
theorem dL_law_28 : decode cL_law 28 = .ok (.iaload, 1) := by decide +kernel
theorem dL_law_29 : decode cL_law 29 = .ok (.bipush 31, 2) := by decide +kernel
theorem dL_law_31 : decode cL_law 31 = .ok (.iand, 1) := by decide +kernel
theorem dL_law_32 : decode cL_law 32 = .ok (.tableswitch 683 0 20 #[100, 123, 156, 189, 212, 245, 268, 301, 324, 367, 380, 403, 426, 449, 472, 505, 548, 581, 614, 637, 660], 100) := by decide +kernel
theorem dL_law_132 : decode cL_law 132 = .ok (.aload_n 1, 1) := by decide +kernel
theorem dL_law_133 : decode cL_law 133 = .ok (.aload_n 0, 1) := by decide +kernel
theorem dL_law_134 : decode cL_law 134 = .ok (.iload_n 3, 1) := by decide +kernel
theorem dL_law_135 : decode cL_law 135 = .ok (.iconst 1, 1) := by decide +kernel
theorem dL_law_136 : decode cL_law 136 = .ok (.iadd, 1) := by decide +kernel
theorem dL_law_137 : decode cL_law 137 = .ok (.iaload, 1) := by decide +kernel
theorem dL_law_138 : decode cL_law 138 = .ok (.invokevirtual 13, 3) := by decide +kernel
theorem dL_law_141 : decode cL_law 141 = .ok (.aload_n 2, 1) := by decide +kernel
theorem dL_law_142 : decode cL_law 142 = .ok (.aload_n 0, 1) := by decide +kernel
theorem dL_law_143 : decode cL_law 143 = .ok (.iload_n 3, 1) := by decide +kernel
theorem dL_law_144 : decode cL_law 144 = .ok (.iconst 1, 1) := by decide +kernel
theorem dL_law_145 : decode cL_law 145 = .ok (.iadd, 1) := by decide +kernel
theorem dL_law_146 : decode cL_law 146 = .ok (.iaload, 1) := by decide +kernel
theorem dL_law_147 : decode cL_law 147 = .ok (.invokevirtual 17, 3) := by decide +kernel
theorem dL_law_150 : decode cL_law 150 = .ok (.if_icmp .eq 565, 3) := by decide +kernel
theorem dL_law_153 : decode cL_law 153 = .ok (.iconst 0, 1) := by decide +kernel
theorem dL_law_154 : decode cL_law 154 = .ok (.ireturn, 1) := by decide +kernel
theorem dL_law_155 : decode cL_law 155 = .ok (.aload_n 1, 1) := by decide +kernel
theorem dL_law_156 : decode cL_law 156 = .ok (.aload_n 0, 1) := by decide +kernel
theorem dL_law_157 : decode cL_law 157 = .ok (.iload_n 3, 1) := by decide +kernel
theorem dL_law_158 : decode cL_law 158 = .ok (.iconst 1, 1) := by decide +kernel
theorem dL_law_159 : decode cL_law 159 = .ok (.iadd, 1) := by decide +kernel
theorem dL_law_160 : decode cL_law 160 = .ok (.iaload, 1) := by decide +kernel
theorem dL_law_161 : decode cL_law 161 = .ok (.aload_n 0, 1) := by decide +kernel
theorem dL_law_162 : decode cL_law 162 = .ok (.iload_n 3, 1) := by decide +kernel
theorem dL_law_163 : decode cL_law 163 = .ok (.iconst 2, 1) := by decide +kernel
theorem dL_law_164 : decode cL_law 164 = .ok (.iadd, 1) := by decide +kernel
theorem dL_law_165 : decode cL_law 165 = .ok (.iaload, 1) := by decide +kernel
theorem dL_law_166 : decode cL_law 166 = .ok (.invokevirtual 18, 3) := by decide +kernel
theorem dL_law_169 : decode cL_law 169 = .ok (.aload_n 2, 1) := by decide +kernel
theorem dL_law_170 : decode cL_law 170 = .ok (.aload_n 0, 1) := by decide +kernel
theorem dL_law_171 : decode cL_law 171 = .ok (.iload_n 3, 1) := by decide +kernel
theorem dL_law_172 : decode cL_law 172 = .ok (.iconst 1, 1) := by decide +kernel
theorem dL_law_173 : decode cL_law 173 = .ok (.iadd, 1) := by decide +kernel
theorem dL_law_174 : decode cL_law 174 = .ok (.iaload, 1) := by decide +kernel
theorem dL_law_175 : decode cL_law 175 = .ok (.aload_n 0, 1) := by decide +kernel
theorem dL_law_176 : decode cL_law 176 = .ok (.iload_n 3, 1) := by decide +kernel
theorem dL_law_177 : decode cL_law 177 = .ok (.iconst 2, 1) := by decide +kernel
theorem dL_law_178 : decode cL_law 178 = .ok (.iadd, 1) := by decide +kernel
theorem dL_law_179 : decode cL_law 179 = .ok (.iaload, 1) := by decide +kernel
theorem dL_law_180 : decode cL_law 180 = .ok (.invokevirtual 22, 3) := by decide +kernel
theorem dL_law_183 : decode cL_law 183 = .ok (.if_icmp .eq 532, 3) := by decide +kernel
theorem dL_law_186 : decode cL_law 186 = .ok (.iconst 0, 1) := by decide +kernel
theorem dL_law_187 : decode cL_law 187 = .ok (.ireturn, 1) := by decide +kernel
theorem dL_law_188 : decode cL_law 188 = .ok (.aload_n 1, 1) := by decide +kernel
theorem dL_law_189 : decode cL_law 189 = .ok (.aload_n 0, 1) := by decide +kernel
theorem dL_law_190 : decode cL_law 190 = .ok (.iload_n 3, 1) := by decide +kernel
theorem dL_law_191 : decode cL_law 191 = .ok (.iconst 1, 1) := by decide +kernel
theorem dL_law_192 : decode cL_law 192 = .ok (.iadd, 1) := by decide +kernel
theorem dL_law_193 : decode cL_law 193 = .ok (.iaload, 1) := by decide +kernel
theorem dL_law_194 : decode cL_law 194 = .ok (.aload_n 0, 1) := by decide +kernel
theorem dL_law_195 : decode cL_law 195 = .ok (.iload_n 3, 1) := by decide +kernel
theorem dL_law_196 : decode cL_law 196 = .ok (.iconst 2, 1) := by decide +kernel
theorem dL_law_197 : decode cL_law 197 = .ok (.iadd, 1) := by decide +kernel
theorem dL_law_198 : decode cL_law 198 = .ok (.iaload, 1) := by decide +kernel
theorem dL_law_199 : decode cL_law 199 = .ok (.invokevirtual 23, 3) := by decide +kernel
theorem dL_law_202 : decode cL_law 202 = .ok (.aload_n 2, 1) := by decide +kernel
theorem dL_law_203 : decode cL_law 203 = .ok (.aload_n 0, 1) := by decide +kernel
theorem dL_law_204 : decode cL_law 204 = .ok (.iload_n 3, 1) := by decide +kernel
theorem dL_law_205 : decode cL_law 205 = .ok (.iconst 1, 1) := by decide +kernel
theorem dL_law_206 : decode cL_law 206 = .ok (.iadd, 1) := by decide +kernel
theorem dL_law_207 : decode cL_law 207 = .ok (.iaload, 1) := by decide +kernel
theorem dL_law_208 : decode cL_law 208 = .ok (.aload_n 0, 1) := by decide +kernel
theorem dL_law_209 : decode cL_law 209 = .ok (.iload_n 3, 1) := by decide +kernel
theorem dL_law_210 : decode cL_law 210 = .ok (.iconst 2, 1) := by decide +kernel
theorem dL_law_211 : decode cL_law 211 = .ok (.iadd, 1) := by decide +kernel
theorem dL_law_212 : decode cL_law 212 = .ok (.iaload, 1) := by decide +kernel
theorem dL_law_213 : decode cL_law 213 = .ok (.invokevirtual 26, 3) := by decide +kernel
theorem dL_law_216 : decode cL_law 216 = .ok (.if_icmp .eq 499, 3) := by decide +kernel
theorem dL_law_219 : decode cL_law 219 = .ok (.iconst 0, 1) := by decide +kernel
theorem dL_law_220 : decode cL_law 220 = .ok (.ireturn, 1) := by decide +kernel
theorem dL_law_221 : decode cL_law 221 = .ok (.aload_n 1, 1) := by decide +kernel
theorem dL_law_222 : decode cL_law 222 = .ok (.aload_n 0, 1) := by decide +kernel
theorem dL_law_223 : decode cL_law 223 = .ok (.iload_n 3, 1) := by decide +kernel
theorem dL_law_224 : decode cL_law 224 = .ok (.iconst 1, 1) := by decide +kernel
theorem dL_law_225 : decode cL_law 225 = .ok (.iadd, 1) := by decide +kernel
theorem dL_law_226 : decode cL_law 226 = .ok (.iaload, 1) := by decide +kernel
theorem dL_law_227 : decode cL_law 227 = .ok (.invokevirtual 27, 3) := by decide +kernel
theorem dL_law_230 : decode cL_law 230 = .ok (.aload_n 2, 1) := by decide +kernel
theorem dL_law_231 : decode cL_law 231 = .ok (.aload_n 0, 1) := by decide +kernel
theorem dL_law_232 : decode cL_law 232 = .ok (.iload_n 3, 1) := by decide +kernel
theorem dL_law_233 : decode cL_law 233 = .ok (.iconst 1, 1) := by decide +kernel
theorem dL_law_234 : decode cL_law 234 = .ok (.iadd, 1) := by decide +kernel
theorem dL_law_235 : decode cL_law 235 = .ok (.iaload, 1) := by decide +kernel
theorem dL_law_236 : decode cL_law 236 = .ok (.invokevirtual 30, 3) := by decide +kernel
theorem dL_law_239 : decode cL_law 239 = .ok (.if_icmp .eq 476, 3) := by decide +kernel
theorem dL_law_242 : decode cL_law 242 = .ok (.iconst 0, 1) := by decide +kernel
theorem dL_law_243 : decode cL_law 243 = .ok (.ireturn, 1) := by decide +kernel
theorem dL_law_244 : decode cL_law 244 = .ok (.aload_n 1, 1) := by decide +kernel
theorem dL_law_245 : decode cL_law 245 = .ok (.aload_n 0, 1) := by decide +kernel
theorem dL_law_246 : decode cL_law 246 = .ok (.iload_n 3, 1) := by decide +kernel
theorem dL_law_247 : decode cL_law 247 = .ok (.iconst 1, 1) := by decide +kernel
theorem dL_law_248 : decode cL_law 248 = .ok (.iadd, 1) := by decide +kernel
theorem dL_law_249 : decode cL_law 249 = .ok (.iaload, 1) := by decide +kernel
theorem dL_law_250 : decode cL_law 250 = .ok (.aload_n 0, 1) := by decide +kernel
theorem dL_law_251 : decode cL_law 251 = .ok (.iload_n 3, 1) := by decide +kernel
theorem dL_law_252 : decode cL_law 252 = .ok (.iconst 2, 1) := by decide +kernel
theorem dL_law_253 : decode cL_law 253 = .ok (.iadd, 1) := by decide +kernel
theorem dL_law_254 : decode cL_law 254 = .ok (.iaload, 1) := by decide +kernel
theorem dL_law_255 : decode cL_law 255 = .ok (.invokevirtual 31, 3) := by decide +kernel
theorem dL_law_258 : decode cL_law 258 = .ok (.aload_n 2, 1) := by decide +kernel
theorem dL_law_259 : decode cL_law 259 = .ok (.aload_n 0, 1) := by decide +kernel
theorem dL_law_260 : decode cL_law 260 = .ok (.iload_n 3, 1) := by decide +kernel
theorem dL_law_261 : decode cL_law 261 = .ok (.iconst 1, 1) := by decide +kernel
theorem dL_law_262 : decode cL_law 262 = .ok (.iadd, 1) := by decide +kernel
theorem dL_law_263 : decode cL_law 263 = .ok (.iaload, 1) := by decide +kernel
theorem dL_law_264 : decode cL_law 264 = .ok (.aload_n 0, 1) := by decide +kernel
theorem dL_law_265 : decode cL_law 265 = .ok (.iload_n 3, 1) := by decide +kernel
theorem dL_law_266 : decode cL_law 266 = .ok (.iconst 2, 1) := by decide +kernel
theorem dL_law_267 : decode cL_law 267 = .ok (.iadd, 1) := by decide +kernel
theorem dL_law_268 : decode cL_law 268 = .ok (.iaload, 1) := by decide +kernel
theorem dL_law_269 : decode cL_law 269 = .ok (.invokevirtual 34, 3) := by decide +kernel
