theorem dX8_at_37 : decode cX8_at 37 = .ok (.if_icmp .ge 15, 3) := by decide +kernel
theorem dX8_at_40 : decode cX8_at 40 = .ok (.aload_n 2, 1) := by decide +kernel
theorem dX8_at_41 : decode cX8_at 41 = .ok (.iload_n 3, 1) := by decide +kernel
theorem dX8_at_42 : decode cX8_at 42 = .ok (.invokevirtual 150, 3) := by decide +kernel
theorem dX8_at_45 : decode cX8_at 45 = .ok (.istore_n 3, 1) := by decide +kernel
theorem dX8_at_46 : decode cX8_at 46 = .ok (.iinc 4 1, 3) := by decide +kernel
theorem dX8_at_49 : decode cX8_at 49 = .ok (.goto (-15), 3) := by decide +kernel
theorem dX8_at_52 : decode cX8_at 52 = .ok (.aload_n 2, 1) := by decide +kernel
theorem dX8_at_53 : decode cX8_at 53 = .ok (.iload_n 3, 1) := by decide +kernel
theorem dX8_at_54 : decode cX8_at 54 = .ok (.invokevirtual 53, 3) := by decide +kernel
theorem dX8_at_57 : decode cX8_at 57 = .ok (.ireturn, 1) := by decide +kernel
theorem dX8_put_0 : decode cX8_put 0 = .ok (.iload_n 1, 1) := by decide +kernel
theorem dX8_put_1 : decode cX8_put 1 = .ok (.invokestatic 153, 3) := by decide +kernel
theorem dX8_put_4 : decode cX8_put 4 = .ok (.ifCond .eq 10, 3) := by decide +kernel
theorem dX8_put_7 : decode cX8_put 7 = .ok (.iload_n 2, 1) := by decide +kernel
theorem dX8_put_8 : decode cX8_put 8 = .ok (.invokestatic 157, 3) := by decide +kernel
theorem dX8_put_11 : decode cX8_put 11 = .ok (.ifCond .ne 6, 3) := by decide +kernel
theorem dX8_put_14 : decode cX8_put 14 = .ok (.ldc 110, 2) := by decide +kernel
theorem dX8_put_16 : decode cX8_put 16 = .ok (.ireturn, 1) := by decide +kernel
theorem dX8_put_17 : decode cX8_put 17 = .ok (.aload_n 0, 1) := by decide +kernel
theorem dX8_put_18 : decode cX8_put 18 = .ok (.iload_n 1, 1) := by decide +kernel
theorem dX8_put_19 : decode cX8_put 19 = .ok (.invokevirtual 160, 3) := by decide +kernel
theorem dX8_put_22 : decode cX8_put 22 = .ok (.ifCond .eq 6, 3) := by decide +kernel
theorem dX8_put_25 : decode cX8_put 25 = .ok (.ldc 163, 2) := by decide +kernel
theorem dX8_put_27 : decode cX8_put 27 = .ok (.ireturn, 1) := by decide +kernel
theorem dX8_put_28 : decode cX8_put 28 = .ok (.aload_n 0, 1) := by decide +kernel
theorem dX8_put_29 : decode cX8_put 29 = .ok (.invokevirtual 164, 3) := by decide +kernel
theorem dX8_put_32 : decode cX8_put 32 = .ok (.ifCond .ne 6, 3) := by decide +kernel
theorem dX8_put_35 : decode cX8_put 35 = .ok (.ldc 168, 2) := by decide +kernel
theorem dX8_put_37 : decode cX8_put 37 = .ok (.ireturn, 1) := by decide +kernel
theorem dX8_put_38 : decode cX8_put 38 = .ok (.aload_n 0, 1) := by decide +kernel
theorem dX8_put_39 : decode cX8_put 39 = .ok (.getfield 22, 3) := by decide +kernel
theorem dX8_put_42 : decode cX8_put 42 = .ok (.aload_n 0, 1) := by decide +kernel
theorem dX8_put_43 : decode cX8_put 43 = .ok (.getfield 10, 3) := by decide +kernel
theorem dX8_put_46 : decode cX8_put 46 = .ok (.invokevirtual 169, 3) := by decide +kernel
theorem dX8_put_49 : decode cX8_put 49 = .ok (.aload_n 0, 1) := by decide +kernel
theorem dX8_put_50 : decode cX8_put 50 = .ok (.getfield 10, 3) := by decide +kernel
theorem dX8_put_53 : decode cX8_put 53 = .ok (.iload_n 1, 1) := by decide +kernel
theorem dX8_put_54 : decode cX8_put 54 = .ok (.iload_n 2, 1) := by decide +kernel
theorem dX8_put_55 : decode cX8_put 55 = .ok (.invokevirtual 173, 3) := by decide +kernel
theorem dX8_put_58 : decode cX8_put 58 = .ok (.aload_n 0, 1) := by decide +kernel
theorem dX8_put_59 : decode cX8_put 59 = .ok (.getfield 10, 3) := by decide +kernel
theorem dX8_put_62 : decode cX8_put 62 = .ok (.getfield 86, 3) := by decide +kernel
theorem dX8_put_65 : decode cX8_put 65 = .ok (.getfield 83, 3) := by decide +kernel
theorem dX8_put_68 : decode cX8_put 68 = .ok (.ireturn, 1) := by decide +kernel
theorem dX8_take_0 : decode cX8_take 0 = .ok (.iload_n 1, 1) := by decide +kernel
theorem dX8_take_1 : decode cX8_take 1 = .ok (.invokestatic 153, 3) := by decide +kernel
theorem dX8_take_4 : decode cX8_take 4 = .ok (.ifCond .ne 6, 3) := by decide +kernel
theorem dX8_take_7 : decode cX8_take 7 = .ok (.ldc 110, 2) := by decide +kernel
theorem dX8_take_9 : decode cX8_take 9 = .ok (.ireturn, 1) := by decide +kernel
theorem dX8_take_10 : decode cX8_take 10 = .ok (.aload_n 0, 1) := by decide +kernel
theorem dX8_take_11 : decode cX8_take 11 = .ok (.getfield 10, 3) := by decide +kernel
theorem dX8_take_14 : decode cX8_take 14 = .ok (.getfield 40, 3) := by decide +kernel
theorem dX8_take_17 : decode cX8_take 17 = .ok (.iload_n 1, 1) := by decide +kernel
theorem dX8_take_18 : decode cX8_take 18 = .ok (.invokevirtual 138, 3) := by decide +kernel
theorem dX8_take_21 : decode cX8_take 21 = .ok (.istore_n 2, 1) := by decide +kernel
theorem dX8_take_22 : decode cX8_take 22 = .ok (.iload_n 2, 1) := by decide +kernel
theorem dX8_take_23 : decode cX8_take 23 = .ok (.iconst (-1), 1) := by decide +kernel
theorem dX8_take_24 : decode cX8_take 24 = .ok (.if_icmp .ne 6, 3) := by decide +kernel
theorem dX8_take_27 : decode cX8_take 27 = .ok (.ldc 163, 2) := by decide +kernel
theorem dX8_take_29 : decode cX8_take 29 = .ok (.ireturn, 1) := by decide +kernel
theorem dX8_take_30 : decode cX8_take 30 = .ok (.aload_n 0, 1) := by decide +kernel
theorem dX8_take_31 : decode cX8_take 31 = .ok (.getfield 10, 3) := by decide +kernel
theorem dX8_take_34 : decode cX8_take 34 = .ok (.getfield 40, 3) := by decide +kernel
theorem dX8_take_37 : decode cX8_take 37 = .ok (.iload_n 2, 1) := by decide +kernel
theorem dX8_take_38 : decode cX8_take 38 = .ok (.invokevirtual 141, 3) := by decide +kernel
theorem dX8_take_41 : decode cX8_take 41 = .ok (.istore_n 3, 1) := by decide +kernel
theorem dX8_take_42 : decode cX8_take 42 = .ok (.aload_n 0, 1) := by decide +kernel
theorem dX8_take_43 : decode cX8_take 43 = .ok (.getfield 22, 3) := by decide +kernel
theorem dX8_take_46 : decode cX8_take 46 = .ok (.aload_n 0, 1) := by decide +kernel
theorem dX8_take_47 : decode cX8_take 47 = .ok (.getfield 10, 3) := by decide +kernel
theorem dX8_take_50 : decode cX8_take 50 = .ok (.invokevirtual 169, 3) := by decide +kernel
theorem dX8_take_53 : decode cX8_take 53 = .ok (.aload_n 0, 1) := by decide +kernel
theorem dX8_take_54 : decode cX8_take 54 = .ok (.getfield 10, 3) := by decide +kernel
theorem dX8_take_57 : decode cX8_take 57 = .ok (.iload_n 2, 1) := by decide +kernel
theorem dX8_take_58 : decode cX8_take 58 = .ok (.invokevirtual 177, 3) := by decide +kernel
theorem dX8_take_61 : decode cX8_take 61 = .ok (.iload_n 3, 1) := by decide +kernel
theorem dX8_take_62 : decode cX8_take 62 = .ok (.ireturn, 1) := by decide +kernel
theorem dX8_worth_0 : decode cX8_worth 0 = .ok (.aload_n 0, 1) := by decide +kernel
theorem dX8_worth_1 : decode cX8_worth 1 = .ok (.getfield 10, 3) := by decide +kernel
theorem dX8_worth_4 : decode cX8_worth 4 = .ok (.getfield 40, 3) := by decide +kernel
theorem dX8_worth_7 : decode cX8_worth 7 = .ok (.iload_n 1, 1) := by decide +kernel
theorem dX8_worth_8 : decode cX8_worth 8 = .ok (.invokevirtual 138, 3) := by decide +kernel
theorem dX8_worth_11 : decode cX8_worth 11 = .ok (.istore_n 3, 1) := by decide +kernel
theorem dX8_worth_12 : decode cX8_worth 12 = .ok (.iload_n 3, 1) := by decide +kernel
theorem dX8_worth_13 : decode cX8_worth 13 = .ok (.iconst (-1), 1) := by decide +kernel
theorem dX8_worth_14 : decode cX8_worth 14 = .ok (.if_icmp .ne 6, 3) := by decide +kernel
theorem dX8_worth_17 : decode cX8_worth 17 = .ok (.ldc 114, 2) := by decide +kernel
theorem dX8_worth_19 : decode cX8_worth 19 = .ok (.ireturn, 1) := by decide +kernel
theorem dX8_worth_20 : decode cX8_worth 20 = .ok (.iload_n 2, 1) := by decide +kernel
theorem dX8_worth_21 : decode cX8_worth 21 = .ok (.invokestatic 157, 3) := by decide +kernel
theorem dX8_worth_24 : decode cX8_worth 24 = .ok (.ifCond .ne 6, 3) := by decide +kernel
theorem dX8_worth_27 : decode cX8_worth 27 = .ok (.ldc 110, 2) := by decide +kernel
theorem dX8_worth_29 : decode cX8_worth 29 = .ok (.ireturn, 1) := by decide +kernel
theorem dX8_worth_30 : decode cX8_worth 30 = .ok (.aload_n 0, 1) := by decide +kernel
theorem dX8_worth_31 : decode cX8_worth 31 = .ok (.getfield 10, 3) := by decide +kernel
theorem dX8_worth_34 : decode cX8_worth 34 = .ok (.getfield 40, 3) := by decide +kernel
theorem dX8_worth_37 : decode cX8_worth 37 = .ok (.iload_n 3, 1) := by decide +kernel
theorem dX8_worth_38 : decode cX8_worth 38 = .ok (.invokevirtual 141, 3) := by decide +kernel
theorem dX8_worth_41 : decode cX8_worth 41 = .ok (.istore 4, 2) := by decide +kernel
theorem dX8_worth_43 : decode cX8_worth 43 = .ok (.aload_n 0, 1) := by decide +kernel
theorem dX8_worth_44 : decode cX8_worth 44 = .ok (.getfield 22, 3) := by decide +kernel
theorem dX8_worth_47 : decode cX8_worth 47 = .ok (.aload_n 0, 1) := by decide +kernel
theorem dX8_worth_48 : decode cX8_worth 48 = .ok (.getfield 10, 3) := by decide +kernel
theorem dX8_worth_51 : decode cX8_worth 51 = .ok (.invokevirtual 169, 3) := by decide +kernel
theorem dX8_worth_54 : decode cX8_worth 54 = .ok (.aload_n 0, 1) := by decide +kernel
theorem dX8_worth_55 : decode cX8_worth 55 = .ok (.getfield 10, 3) := by decide +kernel
theorem dX8_worth_58 : decode cX8_worth 58 = .ok (.getfield 40, 3) := by decide +kernel
theorem dX8_worth_61 : decode cX8_worth 61 = .ok (.iload_n 3, 1) := by decide +kernel
theorem dX8_worth_62 : decode cX8_worth 62 = .ok (.iload_n 2, 1) := by decide +kernel
theorem dX8_worth_63 : decode cX8_worth 63 = .ok (.invokevirtual 181, 3) := by decide +kernel
theorem dX8_worth_66 : decode cX8_worth 66 = .ok (.iload 4, 2) := by decide +kernel
theorem dX8_worth_68 : decode cX8_worth 68 = .ok (.ireturn, 1) := by decide +kernel
theorem dX8_cut_0 : decode cX8_cut 0 = .ok (.iload_n 1, 1) := by decide +kernel
theorem dX8_cut_1 : decode cX8_cut 1 = .ok (.iconst 0, 1) := by decide +kernel
theorem dX8_cut_2 : decode cX8_cut 2 = .ok (.ldc 184, 2) := by decide +kernel
theorem dX8_cut_4 : decode cX8_cut 4 = .ok (.invokestatic 185, 3) := by decide +kernel
theorem dX8_cut_7 : decode cX8_cut 7 = .ok (.ifCond .ne 6, 3) := by decide +kernel
theorem dX8_cut_10 : decode cX8_cut 10 = .ok (.ldc 110, 2) := by decide +kernel
theorem dX8_cut_12 : decode cX8_cut 12 = .ok (.ireturn, 1) := by decide +kernel
theorem dX8_cut_13 : decode cX8_cut 13 = .ok (.aload_n 0, 1) := by decide +kernel
theorem dX8_cut_14 : decode cX8_cut 14 = .ok (.getfield 22, 3) := by decide +kernel
theorem dX8_cut_17 : decode cX8_cut 17 = .ok (.aload_n 0, 1) := by decide +kernel
theorem dX8_cut_18 : decode cX8_cut 18 = .ok (.getfield 10, 3) := by decide +kernel
theorem dX8_cut_21 : decode cX8_cut 21 = .ok (.invokevirtual 169, 3) := by decide +kernel
theorem dX8_cut_24 : decode cX8_cut 24 = .ok (.aload_n 0, 1) := by decide +kernel
theorem dX8_cut_25 : decode cX8_cut 25 = .ok (.getfield 10, 3) := by decide +kernel
theorem dX8_cut_28 : decode cX8_cut 28 = .ok (.getfield 40, 3) := by decide +kernel
theorem dX8_cut_31 : decode cX8_cut 31 = .ok (.iload_n 1, 1) := by decide +kernel
theorem dX8_cut_32 : decode cX8_cut 32 = .ok (.invokestatic 144, 3) := by decide +kernel
theorem dX8_cut_35 : decode cX8_cut 35 = .ok (.istore_n 2, 1) := by decide +kernel
theorem dX8_cut_36 : decode cX8_cut 36 = .ok (.iconst 0, 1) := by decide +kernel
theorem dX8_cut_37 : decode cX8_cut 37 = .ok (.istore_n 3, 1) := by decide +kernel
theorem dX8_cut_38 : decode cX8_cut 38 = .ok (.iload_n 3, 1) := by decide +kernel
theorem dX8_cut_39 : decode cX8_cut 39 = .ok (.iload_n 2, 1) := by decide +kernel
theorem dX8_cut_40 : decode cX8_cut 40 = .ok (.if_icmp .ge 36, 3) := by decide +kernel
theorem dX8_cut_43 : decode cX8_cut 43 = .ok (.aload_n 0, 1) := by decide +kernel
theorem dX8_cut_44 : decode cX8_cut 44 = .ok (.getfield 10, 3) := by decide +kernel
theorem dX8_cut_47 : decode cX8_cut 47 = .ok (.aload_n 0, 1) := by decide +kernel
theorem dX8_cut_48 : decode cX8_cut 48 = .ok (.getfield 10, 3) := by decide +kernel
theorem dX8_cut_51 : decode cX8_cut 51 = .ok (.getfield 40, 3) := by decide +kernel
theorem dX8_cut_54 : decode cX8_cut 54 = .ok (.aload_n 0, 1) := by decide +kernel
theorem dX8_cut_55 : decode cX8_cut 55 = .ok (.getfield 10, 3) := by decide +kernel
theorem dX8_cut_58 : decode cX8_cut 58 = .ok (.getfield 40, 3) := by decide +kernel
theorem dX8_cut_61 : decode cX8_cut 61 = .ok (.getfield 50, 3) := by decide +kernel
theorem dX8_cut_64 : decode cX8_cut 64 = .ok (.invokevirtual 147, 3) := by decide +kernel
theorem dX8_cut_67 : decode cX8_cut 67 = .ok (.invokevirtual 177, 3) := by decide +kernel
theorem dX8_cut_70 : decode cX8_cut 70 = .ok (.iinc 3 1, 3) := by decide +kernel
theorem dX8_cut_73 : decode cX8_cut 73 = .ok (.goto (-35), 3) := by decide +kernel
theorem dX8_cut_76 : decode cX8_cut 76 = .ok (.iload_n 2, 1) := by decide +kernel
theorem dX8_cut_77 : decode cX8_cut 77 = .ok (.ireturn, 1) := by decide +kernel
theorem dX8_batch_0 : decode cX8_batch 0 = .ok (.iload_n 1, 1) := by decide +kernel
theorem dX8_batch_1 : decode cX8_batch 1 = .ok (.iconst 1, 1) := by decide +kernel
theorem dX8_batch_2 : decode cX8_batch 2 = .ok (.bipush 30, 2) := by decide +kernel
theorem dX8_batch_4 : decode cX8_batch 4 = .ok (.invokestatic 185, 3) := by decide +kernel
theorem dX8_batch_7 : decode cX8_batch 7 = .ok (.ifCond .eq 21, 3) := by decide +kernel
theorem dX8_batch_10 : decode cX8_batch 10 = .ok (.iload_n 2, 1) := by decide +kernel
theorem dX8_batch_11 : decode cX8_batch 11 = .ok (.invokestatic 153, 3) := by decide +kernel
theorem dX8_batch_14 : decode cX8_batch 14 = .ok (.ifCond .eq 14, 3) := by decide +kernel
theorem dX8_batch_17 : decode cX8_batch 17 = .ok (.iload_n 3, 1) := by decide +kernel
theorem dX8_batch_18 : decode cX8_batch 18 = .ok (.iconst 1, 1) := by decide +kernel
theorem dX8_batch_19 : decode cX8_batch 19 = .ok (.sipush 9999, 3) := by decide +kernel
theorem dX8_batch_22 : decode cX8_batch 22 = .ok (.invokestatic 185, 3) := by decide +kernel
theorem dX8_batch_25 : decode cX8_batch 25 = .ok (.ifCond .ne 6, 3) := by decide +kernel
theorem dX8_batch_28 : decode cX8_batch 28 = .ok (.ldc 110, 2) := by decide +kernel
theorem dX8_batch_30 : decode cX8_batch 30 = .ok (.ireturn, 1) := by decide +kernel
theorem dX8_batch_31 : decode cX8_batch 31 = .ok (.aload_n 0, 1) := by decide +kernel
theorem dX8_batch_32 : decode cX8_batch 32 = .ok (.getfield 22, 3) := by decide +kernel
theorem dX8_batch_35 : decode cX8_batch 35 = .ok (.aload_n 0, 1) := by decide +kernel
theorem dX8_batch_36 : decode cX8_batch 36 = .ok (.getfield 10, 3) := by decide +kernel
theorem dX8_batch_39 : decode cX8_batch 39 = .ok (.invokevirtual 169, 3) := by decide +kernel
theorem dX8_batch_42 : decode cX8_batch 42 = .ok (.aload_n 0, 1) := by decide +kernel
theorem dX8_batch_43 : decode cX8_batch 43 = .ok (.getfield 10, 3) := by decide +kernel
theorem dX8_batch_46 : decode cX8_batch 46 = .ok (.getfield 40, 3) := by decide +kernel
theorem dX8_batch_49 : decode cX8_batch 49 = .ok (.getfield 44, 3) := by decide +kernel
theorem dX8_batch_52 : decode cX8_batch 52 = .ok (.istore 4, 2) := by decide +kernel
theorem dX8_batch_54 : decode cX8_batch 54 = .ok (.iconst 0, 1) := by decide +kernel
theorem dX8_batch_55 : decode cX8_batch 55 = .ok (.istore 5, 2) := by decide +kernel
theorem dX8_batch_57 : decode cX8_batch 57 = .ok (.iload 5, 2) := by decide +kernel
theorem dX8_batch_59 : decode cX8_batch 59 = .ok (.iload_n 1, 1) := by decide +kernel
theorem dX8_batch_60 : decode cX8_batch 60 = .ok (.if_icmp .ge 20, 3) := by decide +kernel
theorem dX8_batch_63 : decode cX8_batch 63 = .ok (.aload_n 0, 1) := by decide +kernel
theorem dX8_batch_64 : decode cX8_batch 64 = .ok (.iload_n 2, 1) := by decide +kernel
theorem dX8_batch_65 : decode cX8_batch 65 = .ok (.iload 5, 2) := by decide +kernel
theorem dX8_batch_67 : decode cX8_batch 67 = .ok (.iload_n 3, 1) := by decide +kernel
theorem dX8_batch_68 : decode cX8_batch 68 = .ok (.imul, 1) := by decide +kernel
theorem dX8_batch_69 : decode cX8_batch 69 = .ok (.iadd, 1) := by decide +kernel
theorem dX8_batch_70 : decode cX8_batch 70 = .ok (.iconst 1, 1) := by decide +kernel
theorem dX8_batch_71 : decode cX8_batch 71 = .ok (.invokevirtual 189, 3) := by decide +kernel
theorem dX8_batch_74 : decode cX8_batch 74 = .ok (.iinc 5 1, 3) := by decide +kernel
theorem dX8_batch_77 : decode cX8_batch 77 = .ok (.goto (-20), 3) := by decide +kernel
theorem dX8_batch_80 : decode cX8_batch 80 = .ok (.aload_n 0, 1) := by decide +kernel
theorem dX8_batch_81 : decode cX8_batch 81 = .ok (.getfield 10, 3) := by decide +kernel
theorem dX8_batch_84 : decode cX8_batch 84 = .ok (.getfield 40, 3) := by decide +kernel
theorem dX8_batch_87 : decode cX8_batch 87 = .ok (.getfield 44, 3) := by decide +kernel
theorem dX8_batch_90 : decode cX8_batch 90 = .ok (.iload 4, 2) := by decide +kernel
theorem dX8_batch_92 : decode cX8_batch 92 = .ok (.isub, 1) := by decide +kernel
theorem dX8_batch_93 : decode cX8_batch 93 = .ok (.ireturn, 1) := by decide +kernel
theorem dX8_rebuild_0 : decode cX8_rebuild 0 = .ok (.aload_n 0, 1) := by decide +kernel
theorem dX8_rebuild_1 : decode cX8_rebuild 1 = .ok (.getfield 22, 3) := by decide +kernel
theorem dX8_rebuild_4 : decode cX8_rebuild 4 = .ok (.aload_n 0, 1) := by decide +kernel
theorem dX8_rebuild_5 : decode cX8_rebuild 5 = .ok (.getfield 10, 3) := by decide +kernel
theorem dX8_rebuild_8 : decode cX8_rebuild 8 = .ok (.invokevirtual 169, 3) := by decide +kernel
theorem dX8_rebuild_11 : decode cX8_rebuild 11 = .ok (.aload_n 0, 1) := by decide +kernel
theorem dX8_rebuild_12 : decode cX8_rebuild 12 = .ok (.getfield 16, 3) := by decide +kernel
theorem dX8_rebuild_15 : decode cX8_rebuild 15 = .ok (.aload_n 0, 1) := by decide +kernel
theorem dX8_rebuild_16 : decode cX8_rebuild 16 = .ok (.getfield 10, 3) := by decide +kernel
theorem dX8_rebuild_19 : decode cX8_rebuild 19 = .ok (.invokevirtual 192, 3) := by decide +kernel
theorem dX8_rebuild_22 : decode cX8_rebuild 22 = .ok (.aload_n 0, 1) := by decide +kernel
theorem dX8_rebuild_23 : decode cX8_rebuild 23 = .ok (.getfield 10, 3) := by decide +kernel
theorem dX8_rebuild_26 : decode cX8_rebuild 26 = .ok (.getfield 40, 3) := by decide +kernel
theorem dX8_rebuild_29 : decode cX8_rebuild 29 = .ok (.invokevirtual 195, 3) := by decide +kernel
theorem dX8_rebuild_32 : decode cX8_rebuild 32 = .ok (.aload_n 0, 1) := by decide +kernel
theorem dX8_rebuild_33 : decode cX8_rebuild 33 = .ok (.aload_n 0, 1) := by decide +kernel
theorem dX8_rebuild_34 : decode cX8_rebuild 34 = .ok (.getfield 16, 3) := by decide +kernel
theorem dX8_rebuild_37 : decode cX8_rebuild 37 = .ok (.getfield 40, 3) := by decide +kernel
theorem dX8_rebuild_40 : decode cX8_rebuild 40 = .ok (.iconst (-1), 1) := by decide +kernel
theorem dX8_rebuild_41 : decode cX8_rebuild 41 = .ok (.invokevirtual 198, 3) := by decide +kernel
theorem dX8_rebuild_44 : decode cX8_rebuild 44 = .ok (.aload_n 0, 1) := by decide +kernel
theorem dX8_rebuild_45 : decode cX8_rebuild 45 = .ok (.getfield 10, 3) := by decide +kernel
theorem dX8_rebuild_48 : decode cX8_rebuild 48 = .ok (.getfield 40, 3) := by decide +kernel
theorem dX8_rebuild_51 : decode cX8_rebuild 51 = .ok (.invokestatic 60, 3) := by decide +kernel
theorem dX8_rebuild_54 : decode cX8_rebuild 54 = .ok (.ireturn, 1) := by decide +kernel
theorem dX8_join_0 : decode cX8_join 0 = .ok (.iload_n 1, 1) := by decide +kernel
theorem dX8_join_1 : decode cX8_join 1 = .ok (.invokestatic 202, 3) := by decide +kernel
theorem dX8_join_4 : decode cX8_join 4 = .ok (.ifCond .ne 6, 3) := by decide +kernel
theorem dX8_join_7 : decode cX8_join 7 = .ok (.ldc 114, 2) := by decide +kernel
theorem dX8_join_9 : decode cX8_join 9 = .ok (.ireturn, 1) := by decide +kernel
theorem dX8_join_10 : decode cX8_join 10 = .ok (.aload_n 0, 1) := by decide +kernel
theorem dX8_join_11 : decode cX8_join 11 = .ok (.getfield 35, 3) := by decide +kernel
theorem dX8_join_14 : decode cX8_join 14 = .ok (.iload_n 1, 1) := by decide +kernel
theorem dX8_join_15 : decode cX8_join 15 = .ok (.aaload, 1) := by decide +kernel
theorem dX8_join_16 : decode cX8_join 16 = .ok (.getfield 205, 3) := by decide +kernel
theorem dX8_join_19 : decode cX8_join 19 = .ok (.ifCond .ne 6, 3) := by decide +kernel
theorem dX8_join_22 : decode cX8_join 22 = .ok (.ldc 163, 2) := by decide +kernel
theorem dX8_join_24 : decode cX8_join 24 = .ok (.ireturn, 1) := by decide +kernel
theorem dX8_join_25 : decode cX8_join 25 = .ok (.aload_n 0, 1) := by decide +kernel
theorem dX8_join_26 : decode cX8_join 26 = .ok (.getfield 22, 3) := by decide +kernel
theorem dX8_join_29 : decode cX8_join 29 = .ok (.aload_n 0, 1) := by decide +kernel
theorem dX8_join_30 : decode cX8_join 30 = .ok (.getfield 10, 3) := by decide +kernel
theorem dX8_join_33 : decode cX8_join 33 = .ok (.invokevirtual 169, 3) := by decide +kernel
theorem dX8_join_36 : decode cX8_join 36 = .ok (.aload_n 0, 1) := by decide +kernel
theorem dX8_join_37 : decode cX8_join 37 = .ok (.getfield 10, 3) := by decide +kernel
theorem dX8_join_40 : decode cX8_join 40 = .ok (.getfield 40, 3) := by decide +kernel
theorem dX8_join_43 : decode cX8_join 43 = .ok (.getfield 44, 3) := by decide +kernel
theorem dX8_join_46 : decode cX8_join 46 = .ok (.istore_n 2, 1) := by decide +kernel
theorem dX8_join_47 : decode cX8_join 47 = .ok (.aload_n 0, 1) := by decide +kernel
theorem dX8_join_48 : decode cX8_join 48 = .ok (.getfield 10, 3) := by decide +kernel
theorem dX8_join_51 : decode cX8_join 51 = .ok (.getfield 40, 3) := by decide +kernel
theorem dX8_join_54 : decode cX8_join 54 = .ok (.aload_n 0, 1) := by decide +kernel
theorem dX8_join_55 : decode cX8_join 55 = .ok (.getfield 10, 3) := by decide +kernel
theorem dX8_join_58 : decode cX8_join 58 = .ok (.getfield 40, 3) := by decide +kernel
theorem dX8_join_61 : decode cX8_join 61 = .ok (.aload_n 0, 1) := by decide +kernel
theorem dX8_join_62 : decode cX8_join 62 = .ok (.getfield 10, 3) := by decide +kernel
theorem dX8_join_65 : decode cX8_join 65 = .ok (.getfield 40, 3) := by decide +kernel
theorem dX8_join_68 : decode cX8_join 68 = .ok (.getfield 50, 3) := by decide +kernel
theorem dX8_join_71 : decode cX8_join 71 = .ok (.invokevirtual 209, 3) := by decide +kernel
theorem dX8_join_74 : decode cX8_join 74 = .ok (.invokevirtual 53, 3) := by decide +kernel
theorem dX8_join_77 : decode cX8_join 77 = .ok (.istore_n 3, 1) := by decide +kernel
theorem dX8_join_78 : decode cX8_join 78 = .ok (.aload_n 0, 1) := by decide +kernel
theorem dX8_join_79 : decode cX8_join 79 = .ok (.aload_n 0, 1) := by decide +kernel
theorem dX8_join_80 : decode cX8_join 80 = .ok (.getfield 35, 3) := by decide +kernel
theorem dX8_join_83 : decode cX8_join 83 = .ok (.iload_n 1, 1) := by decide +kernel
theorem dX8_join_84 : decode cX8_join 84 = .ok (.aaload, 1) := by decide +kernel
theorem dX8_join_85 : decode cX8_join 85 = .ok (.getfield 212, 3) := by decide +kernel
theorem dX8_join_88 : decode cX8_join 88 = .ok (.getfield 40, 3) := by decide +kernel
theorem dX8_join_91 : decode cX8_join 91 = .ok (.iload_n 3, 1) := by decide +kernel
theorem dX8_join_92 : decode cX8_join 92 = .ok (.invokevirtual 198, 3) := by decide +kernel
theorem dX8_join_95 : decode cX8_join 95 = .ok (.aload_n 0, 1) := by decide +kernel
theorem dX8_join_96 : decode cX8_join 96 = .ok (.getfield 10, 3) := by decide +kernel
theorem dX8_join_99 : decode cX8_join 99 = .ok (.getfield 40, 3) := by decide +kernel
theorem dX8_join_102 : decode cX8_join 102 = .ok (.getfield 44, 3) := by decide +kernel
theorem dX8_join_105 : decode cX8_join 105 = .ok (.iload_n 2, 1) := by decide +kernel
theorem dX8_join_106 : decode cX8_join 106 = .ok (.isub, 1) := by decide +kernel
theorem dX8_join_107 : decode cX8_join 107 = .ok (.ireturn, 1) := by decide +kernel
theorem dX8_drift_0 : decode cX8_drift 0 = .ok (.iload_n 1, 1) := by decide +kernel
theorem dX8_drift_1 : decode cX8_drift 1 = .ok (.iconst 1, 1) := by decide +kernel
theorem dX8_drift_2 : decode cX8_drift 2 = .ok (.bipush 12, 2) := by decide +kernel
theorem dX8_drift_4 : decode cX8_drift 4 = .ok (.invokestatic 185, 3) := by decide +kernel
theorem dX8_drift_7 : decode cX8_drift 7 = .ok (.ifCond .ne 6, 3) := by decide +kernel
theorem dX8_drift_10 : decode cX8_drift 10 = .ok (.ldc 110, 2) := by decide +kernel
theorem dX8_drift_12 : decode cX8_drift 12 = .ok (.ireturn, 1) := by decide +kernel
theorem dX8_drift_13 : decode cX8_drift 13 = .ok (.iconst 0, 1) := by decide +kernel
theorem dX8_drift_14 : decode cX8_drift 14 = .ok (.istore_n 2, 1) := by decide +kernel
theorem dX8_drift_15 : decode cX8_drift 15 = .ok (.iload_n 2, 1) := by decide +kernel
theorem dX8_drift_16 : decode cX8_drift 16 = .ok (.iload_n 1, 1) := by decide +kernel
theorem dX8_drift_17 : decode cX8_drift 17 = .ok (.if_icmp .ge 24, 3) := by decide +kernel
theorem dX8_drift_20 : decode cX8_drift 20 = .ok (.aload_n 0, 1) := by decide +kernel
theorem dX8_drift_21 : decode cX8_drift 21 = .ok (.getfield 22, 3) := by decide +kernel
theorem dX8_drift_24 : decode cX8_drift 24 = .ok (.aload_n 0, 1) := by decide +kernel
theorem dX8_drift_25 : decode cX8_drift 25 = .ok (.getfield 10, 3) := by decide +kernel
theorem dX8_drift_28 : decode cX8_drift 28 = .ok (.invokevirtual 169, 3) := by decide +kernel
theorem dX8_drift_31 : decode cX8_drift 31 = .ok (.aload_n 0, 1) := by decide +kernel
theorem dX8_drift_32 : decode cX8_drift 32 = .ok (.invokevirtual 213, 3) := by decide +kernel
theorem dX8_drift_35 : decode cX8_drift 35 = .ok (.iinc 2 1, 3) := by decide +kernel
theorem dX8_drift_38 : decode cX8_drift 38 = .ok (.goto (-23), 3) := by decide +kernel
theorem dX8_drift_41 : decode cX8_drift 41 = .ok (.aload_n 0, 1) := by decide +kernel
theorem dX8_drift_42 : decode cX8_drift 42 = .ok (.getfield 10, 3) := by decide +kernel
theorem dX8_drift_45 : decode cX8_drift 45 = .ok (.getfield 40, 3) := by decide +kernel
theorem dX8_drift_48 : decode cX8_drift 48 = .ok (.getfield 44, 3) := by decide +kernel
theorem dX8_drift_51 : decode cX8_drift 51 = .ok (.ireturn, 1) := by decide +kernel
theorem dX8_undo_0 : decode cX8_undo 0 = .ok (.iload_n 1, 1) := by decide +kernel
theorem dX8_undo_1 : decode cX8_undo 1 = .ok (.iconst 1, 1) := by decide +kernel
theorem dX8_undo_2 : decode cX8_undo 2 = .ok (.bipush 12, 2) := by decide +kernel
theorem dX8_undo_4 : decode cX8_undo 4 = .ok (.invokestatic 185, 3) := by decide +kernel
theorem dX8_undo_7 : decode cX8_undo 7 = .ok (.ifCond .ne 6, 3) := by decide +kernel
theorem dX8_undo_10 : decode cX8_undo 10 = .ok (.ldc 110, 2) := by decide +kernel
theorem dX8_undo_12 : decode cX8_undo 12 = .ok (.ireturn, 1) := by decide +kernel
theorem dX8_undo_13 : decode cX8_undo 13 = .ok (.iload_n 1, 1) := by decide +kernel
theorem dX8_undo_14 : decode cX8_undo 14 = .ok (.aload_n 0, 1) := by decide +kernel
theorem dX8_undo_15 : decode cX8_undo 15 = .ok (.getfield 22, 3) := by decide +kernel
theorem dX8_undo_18 : decode cX8_undo 18 = .ok (.getfield 107, 3) := by decide +kernel
theorem dX8_undo_21 : decode cX8_undo 21 = .ok (.if_icmp .le 6, 3) := by decide +kernel
theorem dX8_undo_24 : decode cX8_undo 24 = .ok (.ldc 163, 2) := by decide +kernel
theorem dX8_undo_26 : decode cX8_undo 26 = .ok (.ireturn, 1) := by decide +kernel
theorem dX8_undo_27 : decode cX8_undo 27 = .ok (.aload_n 0, 1) := by decide +kernel
theorem dX8_undo_28 : decode cX8_undo 28 = .ok (.getfield 22, 3) := by decide +kernel
theorem dX8_undo_31 : decode cX8_undo 31 = .ok (.aload_n 0, 1) := by decide +kernel
theorem dX8_undo_32 : decode cX8_undo 32 = .ok (.getfield 10, 3) := by decide +kernel
theorem dX8_undo_35 : decode cX8_undo 35 = .ok (.iload_n 1, 1) := by decide +kernel
theorem dX8_undo_36 : decode cX8_undo 36 = .ok (.invokevirtual 216, 3) := by decide +kernel
theorem dX8_undo_39 : decode cX8_undo 39 = .ok (.aload_n 0, 1) := by decide +kernel
theorem dX8_undo_40 : decode cX8_undo 40 = .ok (.getfield 10, 3) := by decide +kernel
theorem dX8_undo_43 : decode cX8_undo 43 = .ok (.getfield 40, 3) := by decide +kernel
theorem dX8_undo_46 : decode cX8_undo 46 = .ok (.getfield 44, 3) := by decide +kernel
theorem dX8_undo_49 : decode cX8_undo 49 = .ok (.ireturn, 1) := by decide +kernel
theorem dX8_less_0 : decode cX8_less 0 = .ok (.aload_n 0, 1) := by decide +kernel
theorem dX8_less_1 : decode cX8_less 1 = .ok (.getfield 10, 3) := by decide +kernel
theorem dX8_less_4 : decode cX8_less 4 = .ok (.getfield 40, 3) := by decide +kernel
theorem dX8_less_7 : decode cX8_less 7 = .ok (.iload_n 1, 1) := by decide +kernel
theorem dX8_less_8 : decode cX8_less 8 = .ok (.invokestatic 144, 3) := by decide +kernel
theorem dX8_less_11 : decode cX8_less 11 = .ok (.ireturn, 1) := by decide +kernel
theorem dX8_beside_0 : decode cX8_beside 0 = .ok (.iload_n 2, 1) := by decide +kernel
theorem dX8_beside_1 : decode cX8_beside 1 = .ok (.lookupswitch 51 #[(0, 27), (1, 39)], 27) := by decide +kernel
theorem dX8_beside_28 : decode cX8_beside 28 = .ok (.aload_n 0, 1) := by decide +kernel
theorem dX8_beside_29 : decode cX8_beside 29 = .ok (.getfield 10, 3) := by decide +kernel
theorem dX8_beside_32 : decode cX8_beside 32 = .ok (.getfield 40, 3) := by decide +kernel
theorem dX8_beside_35 : decode cX8_beside 35 = .ok (.iload_n 1, 1) := by decide +kernel
theorem dX8_beside_36 : decode cX8_beside 36 = .ok (.invokestatic 220, 3) := by decide +kernel
theorem dX8_beside_39 : decode cX8_beside 39 = .ok (.ireturn, 1) := by decide +kernel
theorem dX8_beside_40 : decode cX8_beside 40 = .ok (.aload_n 0, 1) := by decide +kernel
theorem dX8_beside_41 : decode cX8_beside 41 = .ok (.getfield 10, 3) := by decide +kernel
theorem dX8_beside_44 : decode cX8_beside 44 = .ok (.getfield 40, 3) := by decide +kernel
theorem dX8_beside_47 : decode cX8_beside 47 = .ok (.iload_n 1, 1) := by decide +kernel
theorem dX8_beside_48 : decode cX8_beside 48 = .ok (.invokestatic 223, 3) := by decide +kernel
theorem dX8_beside_51 : decode cX8_beside 51 = .ok (.ireturn, 1) := by decide +kernel
theorem dX8_beside_52 : decode cX8_beside 52 = .ok (.ldc 110, 2) := by decide +kernel
theorem dX8_beside_54 : decode cX8_beside 54 = .ok (.ireturn, 1) := by decide +kernel
theorem dX8_between_0 : decode cX8_between 0 = .ok (.iload_n 3, 1) := by decide +kernel
theorem dX8_between_1 : decode cX8_between 1 = .ok (.tableswitch 66 0 2 #[27, 40, 53], 27) := by decide +kernel
theorem dX8_between_28 : decode cX8_between 28 = .ok (.aload_n 0, 1) := by decide +kernel
theorem dX8_between_29 : decode cX8_between 29 = .ok (.getfield 10, 3) := by decide +kernel
theorem dX8_between_32 : decode cX8_between 32 = .ok (.getfield 40, 3) := by decide +kernel
theorem dX8_between_35 : decode cX8_between 35 = .ok (.iload_n 1, 1) := by decide +kernel
theorem dX8_between_36 : decode cX8_between 36 = .ok (.iload_n 2, 1) := by decide +kernel
theorem dX8_between_37 : decode cX8_between 37 = .ok (.invokestatic 226, 3) := by decide +kernel
theorem dX8_between_40 : decode cX8_between 40 = .ok (.ireturn, 1) := by decide +kernel
theorem dX8_between_41 : decode cX8_between 41 = .ok (.aload_n 0, 1) := by decide +kernel
theorem dX8_between_42 : decode cX8_between 42 = .ok (.getfield 10, 3) := by decide +kernel
theorem dX8_between_45 : decode cX8_between 45 = .ok (.getfield 40, 3) := by decide +kernel
theorem dX8_between_48 : decode cX8_between 48 = .ok (.iload_n 1, 1) := by decide +kernel
theorem dX8_between_49 : decode cX8_between 49 = .ok (.iload_n 2, 1) := by decide +kernel
theorem dX8_between_50 : decode cX8_between 50 = .ok (.invokestatic 67, 3) := by decide +kernel
theorem dX8_between_53 : decode cX8_between 53 = .ok (.ireturn, 1) := by decide +kernel
theorem dX8_between_54 : decode cX8_between 54 = .ok (.aload_n 0, 1) := by decide +kernel
theorem dX8_between_55 : decode cX8_between 55 = .ok (.getfield 10, 3) := by decide +kernel
theorem dX8_between_58 : decode cX8_between 58 = .ok (.getfield 40, 3) := by decide +kernel
theorem dX8_between_61 : decode cX8_between 61 = .ok (.iload_n 1, 1) := by decide +kernel
theorem dX8_between_62 : decode cX8_between 62 = .ok (.iload_n 2, 1) := by decide +kernel
theorem dX8_between_63 : decode cX8_between 63 = .ok (.invokestatic 229, 3) := by decide +kernel
theorem dX8_between_66 : decode cX8_between 66 = .ok (.ireturn, 1) := by decide +kernel
theorem dX8_between_67 : decode cX8_between 67 = .ok (.ldc 110, 2) := by decide +kernel
theorem dX8_between_69 : decode cX8_between 69 = .ok (.ireturn, 1) := by decide +kernel
theorem dX8_way_0 : decode cX8_way 0 = .ok (.aload_n 0, 1) := by decide +kernel
theorem dX8_way_1 : decode cX8_way 1 = .ok (.getfield 10, 3) := by decide +kernel
theorem dX8_way_4 : decode cX8_way 4 = .ok (.getfield 40, 3) := by decide +kernel
theorem dX8_way_7 : decode cX8_way 7 = .ok (.astore_n 3, 1) := by decide +kernel
theorem dX8_way_8 : decode cX8_way 8 = .ok (.aload_n 3, 1) := by decide +kernel
theorem dX8_way_9 : decode cX8_way 9 = .ok (.iload_n 1, 1) := by decide +kernel
theorem dX8_way_10 : decode cX8_way 10 = .ok (.invokevirtual 138, 3) := by decide +kernel
theorem dX8_way_13 : decode cX8_way 13 = .ok (.istore 4, 2) := by decide +kernel
theorem dX8_way_15 : decode cX8_way 15 = .ok (.iload 4, 2) := by decide +kernel
theorem dX8_way_17 : decode cX8_way 17 = .ok (.iconst (-1), 1) := by decide +kernel
theorem dX8_way_18 : decode cX8_way 18 = .ok (.if_icmp .ne 6, 3) := by decide +kernel
theorem dX8_way_21 : decode cX8_way 21 = .ok (.ldc 114, 2) := by decide +kernel
theorem dX8_way_23 : decode cX8_way 23 = .ok (.ireturn, 1) := by decide +kernel
theorem dX8_way_24 : decode cX8_way 24 = .ok (.aload_n 3, 1) := by decide +kernel
theorem dX8_way_25 : decode cX8_way 25 = .ok (.iload 4, 2) := by decide +kernel
theorem dX8_way_27 : decode cX8_way 27 = .ok (.invokevirtual 115, 3) := by decide +kernel
theorem dX8_way_30 : decode cX8_way 30 = .ok (.istore 5, 2) := by decide +kernel
theorem dX8_way_32 : decode cX8_way 32 = .ok (.iload_n 2, 1) := by decide +kernel
theorem dX8_way_33 : decode cX8_way 33 = .ok (.ifCond .lt 9, 3) := by decide +kernel
theorem dX8_way_36 : decode cX8_way 36 = .ok (.iload_n 2, 1) := by decide +kernel
theorem dX8_way_37 : decode cX8_way 37 = .ok (.iload 5, 2) := by decide +kernel
theorem dX8_way_39 : decode cX8_way 39 = .ok (.if_icmp .le 5, 3) := by decide +kernel
theorem dX8_way_42 : decode cX8_way 42 = .ok (.iconst (-1), 1) := by decide +kernel
theorem dX8_way_43 : decode cX8_way 43 = .ok (.ireturn, 1) := by decide +kernel
theorem dX8_way_44 : decode cX8_way 44 = .ok (.iload 5, 2) := by decide +kernel
theorem dX8_way_46 : decode cX8_way 46 = .ok (.istore 6, 2) := by decide +kernel
theorem dX8_way_48 : decode cX8_way 48 = .ok (.iload 6, 2) := by decide +kernel
theorem dX8_way_50 : decode cX8_way 50 = .ok (.iload_n 2, 1) := by decide +kernel
theorem dX8_way_51 : decode cX8_way 51 = .ok (.if_icmp .le 17, 3) := by decide +kernel
theorem dX8_way_54 : decode cX8_way 54 = .ok (.aload_n 3, 1) := by decide +kernel
theorem dX8_way_55 : decode cX8_way 55 = .ok (.iload 4, 2) := by decide +kernel
theorem dX8_way_57 : decode cX8_way 57 = .ok (.invokevirtual 131, 3) := by decide +kernel
theorem dX8_way_60 : decode cX8_way 60 = .ok (.istore 4, 2) := by decide +kernel
theorem dX8_way_62 : decode cX8_way 62 = .ok (.iinc 6 (-1), 3) := by decide +kernel
theorem dX8_way_65 : decode cX8_way 65 = .ok (.goto (-17), 3) := by decide +kernel
theorem dX8_way_68 : decode cX8_way 68 = .ok (.aload_n 3, 1) := by decide +kernel
theorem dX8_way_69 : decode cX8_way 69 = .ok (.iload 4, 2) := by decide +kernel
theorem dX8_way_71 : decode cX8_way 71 = .ok (.invokevirtual 53, 3) := by decide +kernel
theorem dX8_way_74 : decode cX8_way 74 = .ok (.ireturn, 1) := by decide +kernel
theorem dX8_audit_0 : decode cX8_audit 0 = .ok (.aload_n 0, 1) := by decide +kernel
theorem dX8_audit_1 : decode cX8_audit 1 = .ok (.getfield 10, 3) := by decide +kernel
theorem dX8_audit_4 : decode cX8_audit 4 = .ok (.getfield 40, 3) := by decide +kernel
theorem dX8_audit_7 : decode cX8_audit 7 = .ok (.iload_n 1, 1) := by decide +kernel
theorem dX8_audit_8 : decode cX8_audit 8 = .ok (.invokevirtual 111, 3) := by decide +kernel
theorem dX8_audit_11 : decode cX8_audit 11 = .ok (.istore_n 3, 1) := by decide +kernel
theorem dX8_audit_12 : decode cX8_audit 12 = .ok (.iload_n 3, 1) := by decide +kernel
theorem dX8_audit_13 : decode cX8_audit 13 = .ok (.iconst (-1), 1) := by decide +kernel
theorem dX8_audit_14 : decode cX8_audit 14 = .ok (.if_icmp .ne 6, 3) := by decide +kernel
theorem dX8_audit_17 : decode cX8_audit 17 = .ok (.ldc 114, 2) := by decide +kernel
theorem dX8_audit_19 : decode cX8_audit 19 = .ok (.ireturn, 1) := by decide +kernel
theorem dX8_audit_20 : decode cX8_audit 20 = .ok (.iload_n 2, 1) := by decide +kernel
theorem dX8_audit_21 : decode cX8_audit 21 = .ok (.iconst (-1), 1) := by decide +kernel
theorem dX8_audit_22 : decode cX8_audit 22 = .ok (.bipush 30, 2) := by decide +kernel
theorem dX8_audit_24 : decode cX8_audit 24 = .ok (.invokestatic 185, 3) := by decide +kernel
theorem dX8_audit_27 : decode cX8_audit 27 = .ok (.ifCond .ne 6, 3) := by decide +kernel
theorem dX8_audit_30 : decode cX8_audit 30 = .ok (.ldc 110, 2) := by decide +kernel
theorem dX8_audit_32 : decode cX8_audit 32 = .ok (.ireturn, 1) := by decide +kernel
theorem dX8_audit_33 : decode cX8_audit 33 = .ok (.aload_n 0, 1) := by decide +kernel
theorem dX8_audit_34 : decode cX8_audit 34 = .ok (.getfield 16, 3) := by decide +kernel
theorem dX8_audit_37 : decode cX8_audit 37 = .ok (.aload_n 0, 1) := by decide +kernel
theorem dX8_audit_38 : decode cX8_audit 38 = .ok (.getfield 10, 3) := by decide +kernel
theorem dX8_audit_41 : decode cX8_audit 41 = .ok (.invokevirtual 192, 3) := by decide +kernel
theorem dX8_audit_44 : decode cX8_audit 44 = .ok (.aload_n 0, 1) := by decide +kernel
theorem dX8_audit_45 : decode cX8_audit 45 = .ok (.getfield 16, 3) := by decide +kernel
theorem dX8_audit_48 : decode cX8_audit 48 = .ok (.getfield 40, 3) := by decide +kernel
theorem dX8_audit_51 : decode cX8_audit 51 = .ok (.iload_n 3, 1) := by decide +kernel
theorem dX8_audit_52 : decode cX8_audit 52 = .ok (.iload_n 2, 1) := by decide +kernel
theorem dX8_audit_53 : decode cX8_audit 53 = .ok (.invokevirtual 232, 3) := by decide +kernel
theorem dX8_audit_56 : decode cX8_audit 56 = .ok (.aload_n 0, 1) := by decide +kernel
theorem dX8_audit_57 : decode cX8_audit 57 = .ok (.getfield 16, 3) := by decide +kernel
theorem dX8_audit_60 : decode cX8_audit 60 = .ok (.getfield 40, 3) := by decide +kernel
theorem dX8_audit_63 : decode cX8_audit 63 = .ok (.invokestatic 235, 3) := by decide +kernel
theorem dX8_audit_66 : decode cX8_audit 66 = .ok (.ireturn, 1) := by decide +kernel
theorem dX8_seed_0 : decode cX8_seed 0 = .ok (.iload_n 1, 1) := by decide +kernel
theorem dX8_seed_1 : decode cX8_seed 1 = .ok (.ifCond .ge 6, 3) := by decide +kernel
theorem dX8_seed_4 : decode cX8_seed 4 = .ok (.ldc 110, 2) := by decide +kernel
theorem dX8_seed_6 : decode cX8_seed 6 = .ok (.ireturn, 1) := by decide +kernel
theorem dX8_seed_7 : decode cX8_seed 7 = .ok (.aload_n 0, 1) := by decide +kernel
theorem dX8_seed_8 : decode cX8_seed 8 = .ok (.getfield 29, 3) := by decide +kernel
theorem dX8_seed_11 : decode cX8_seed 11 = .ok (.getfield 238, 3) := by decide +kernel
theorem dX8_seed_14 : decode cX8_seed 14 = .ok (.istore_n 2, 1) := by decide +kernel
theorem dX8_seed_15 : decode cX8_seed 15 = .ok (.aload_n 0, 1) := by decide +kernel
theorem dX8_seed_16 : decode cX8_seed 16 = .ok (.getfield 29, 3) := by decide +kernel
theorem dX8_seed_19 : decode cX8_seed 19 = .ok (.iload_n 1, 1) := by decide +kernel
theorem dX8_seed_20 : decode cX8_seed 20 = .ok (.putfield 238, 3) := by decide +kernel
theorem dX8_seed_23 : decode cX8_seed 23 = .ok (.iload_n 2, 1) := by decide +kernel
theorem dX8_seed_24 : decode cX8_seed 24 = .ok (.ireturn, 1) := by decide +kernel
theorem dX8_keep_0 : decode cX8_keep 0 = .ok (.iload_n 1, 1) := by decide +kernel
theorem dX8_keep_1 : decode cX8_keep 1 = .ok (.invokestatic 202, 3) := by decide +kernel
theorem dX8_keep_4 : decode cX8_keep 4 = .ok (.ifCond .ne 6, 3) := by decide +kernel
theorem dX8_keep_7 : decode cX8_keep 7 = .ok (.ldc 114, 2) := by decide +kernel
theorem dX8_keep_9 : decode cX8_keep 9 = .ok (.ireturn, 1) := by decide +kernel
theorem dX8_keep_10 : decode cX8_keep 10 = .ok (.aload_n 0, 1) := by decide +kernel
theorem dX8_keep_11 : decode cX8_keep 11 = .ok (.getfield 35, 3) := by decide +kernel
theorem dX8_keep_14 : decode cX8_keep 14 = .ok (.iload_n 1, 1) := by decide +kernel
theorem dX8_keep_15 : decode cX8_keep 15 = .ok (.aaload, 1) := by decide +kernel
theorem dX8_keep_16 : decode cX8_keep 16 = .ok (.getfield 212, 3) := by decide +kernel
theorem dX8_keep_19 : decode cX8_keep 19 = .ok (.aload_n 0, 1) := by decide +kernel
theorem dX8_keep_20 : decode cX8_keep 20 = .ok (.getfield 10, 3) := by decide +kernel
theorem dX8_keep_23 : decode cX8_keep 23 = .ok (.invokevirtual 192, 3) := by decide +kernel
theorem dX8_keep_26 : decode cX8_keep 26 = .ok (.aload_n 0, 1) := by decide +kernel
theorem dX8_keep_27 : decode cX8_keep 27 = .ok (.getfield 35, 3) := by decide +kernel
theorem dX8_keep_30 : decode cX8_keep 30 = .ok (.iload_n 1, 1) := by decide +kernel
theorem dX8_keep_31 : decode cX8_keep 31 = .ok (.aaload, 1) := by decide +kernel
theorem dX8_keep_32 : decode cX8_keep 32 = .ok (.aload_n 0, 1) := by decide +kernel
theorem dX8_keep_33 : decode cX8_keep 33 = .ok (.getfield 29, 3) := by decide +kernel
theorem dX8_keep_36 : decode cX8_keep 36 = .ok (.getfield 238, 3) := by decide +kernel
theorem dX8_keep_39 : decode cX8_keep 39 = .ok (.putfield 241, 3) := by decide +kernel
theorem dX8_keep_42 : decode cX8_keep 42 = .ok (.aload_n 0, 1) := by decide +kernel
theorem dX8_keep_43 : decode cX8_keep 43 = .ok (.getfield 35, 3) := by decide +kernel
theorem dX8_keep_46 : decode cX8_keep 46 = .ok (.iload_n 1, 1) := by decide +kernel
theorem dX8_keep_47 : decode cX8_keep 47 = .ok (.aaload, 1) := by decide +kernel
theorem dX8_keep_48 : decode cX8_keep 48 = .ok (.iconst 1, 1) := by decide +kernel
theorem dX8_keep_49 : decode cX8_keep 49 = .ok (.putfield 205, 3) := by decide +kernel
theorem dX8_keep_52 : decode cX8_keep 52 = .ok (.aload_n 0, 1) := by decide +kernel
theorem dX8_keep_53 : decode cX8_keep 53 = .ok (.getfield 22, 3) := by decide +kernel
theorem dX8_keep_56 : decode cX8_keep 56 = .ok (.invokevirtual 244, 3) := by decide +kernel
theorem dX8_keep_59 : decode cX8_keep 59 = .ok (.iconst 1, 1) := by decide +kernel
theorem dX8_keep_60 : decode cX8_keep 60 = .ok (.ireturn, 1) := by decide +kernel
theorem dX8_goBack_0 : decode cX8_goBack 0 = .ok (.iload_n 1, 1) := by decide +kernel
theorem dX8_goBack_1 : decode cX8_goBack 1 = .ok (.invokestatic 202, 3) := by decide +kernel
theorem dX8_goBack_4 : decode cX8_goBack 4 = .ok (.ifCond .ne 6, 3) := by decide +kernel
theorem dX8_goBack_7 : decode cX8_goBack 7 = .ok (.ldc 114, 2) := by decide +kernel
theorem dX8_goBack_9 : decode cX8_goBack 9 = .ok (.ireturn, 1) := by decide +kernel
theorem dX8_goBack_10 : decode cX8_goBack 10 = .ok (.aload_n 0, 1) := by decide +kernel
theorem dX8_goBack_11 : decode cX8_goBack 11 = .ok (.getfield 35, 3) := by decide +kernel
theorem dX8_goBack_14 : decode cX8_goBack 14 = .ok (.iload_n 1, 1) := by decide +kernel
theorem dX8_goBack_15 : decode cX8_goBack 15 = .ok (.aaload, 1) := by decide +kernel
theorem dX8_goBack_16 : decode cX8_goBack 16 = .ok (.getfield 205, 3) := by decide +kernel
theorem dX8_goBack_19 : decode cX8_goBack 19 = .ok (.ifCond .ne 6, 3) := by decide +kernel
theorem dX8_goBack_22 : decode cX8_goBack 22 = .ok (.ldc 163, 2) := by decide +kernel
theorem dX8_goBack_24 : decode cX8_goBack 24 = .ok (.ireturn, 1) := by decide +kernel
theorem dX8_goBack_25 : decode cX8_goBack 25 = .ok (.aload_n 0, 1) := by decide +kernel
theorem dX8_goBack_26 : decode cX8_goBack 26 = .ok (.getfield 10, 3) := by decide +kernel
theorem dX8_goBack_29 : decode cX8_goBack 29 = .ok (.aload_n 0, 1) := by decide +kernel
theorem dX8_goBack_30 : decode cX8_goBack 30 = .ok (.getfield 35, 3) := by decide +kernel
theorem dX8_goBack_33 : decode cX8_goBack 33 = .ok (.iload_n 1, 1) := by decide +kernel
theorem dX8_goBack_34 : decode cX8_goBack 34 = .ok (.aaload, 1) := by decide +kernel
theorem dX8_goBack_35 : decode cX8_goBack 35 = .ok (.getfield 212, 3) := by decide +kernel
theorem dX8_goBack_38 : decode cX8_goBack 38 = .ok (.invokevirtual 192, 3) := by decide +kernel
theorem dX8_goBack_41 : decode cX8_goBack 41 = .ok (.aload_n 0, 1) := by decide +kernel
theorem dX8_goBack_42 : decode cX8_goBack 42 = .ok (.getfield 29, 3) := by decide +kernel
theorem dX8_goBack_45 : decode cX8_goBack 45 = .ok (.aload_n 0, 1) := by decide +kernel
theorem dX8_goBack_46 : decode cX8_goBack 46 = .ok (.getfield 35, 3) := by decide +kernel
theorem dX8_goBack_49 : decode cX8_goBack 49 = .ok (.iload_n 1, 1) := by decide +kernel
theorem dX8_goBack_50 : decode cX8_goBack 50 = .ok (.aaload, 1) := by decide +kernel
theorem dX8_goBack_51 : decode cX8_goBack 51 = .ok (.getfield 241, 3) := by decide +kernel
theorem dX8_goBack_54 : decode cX8_goBack 54 = .ok (.putfield 238, 3) := by decide +kernel
theorem dX8_goBack_57 : decode cX8_goBack 57 = .ok (.aload_n 0, 1) := by decide +kernel
theorem dX8_goBack_58 : decode cX8_goBack 58 = .ok (.getfield 22, 3) := by decide +kernel
theorem dX8_goBack_61 : decode cX8_goBack 61 = .ok (.invokevirtual 244, 3) := by decide +kernel
theorem dX8_goBack_64 : decode cX8_goBack 64 = .ok (.iconst 1, 1) := by decide +kernel
theorem dX8_goBack_65 : decode cX8_goBack 65 = .ok (.ireturn, 1) := by decide +kernel
theorem dX8_isWithin_0 : decode cX8_isWithin 0 = .ok (.iload_n 0, 1) := by decide +kernel
theorem dX8_isWithin_1 : decode cX8_isWithin 1 = .ok (.iload_n 1, 1) := by decide +kernel
theorem dX8_isWithin_2 : decode cX8_isWithin 2 = .ok (.if_icmp .lt 12, 3) := by decide +kernel
theorem dX8_isWithin_5 : decode cX8_isWithin 5 = .ok (.iload_n 0, 1) := by decide +kernel
theorem dX8_isWithin_6 : decode cX8_isWithin 6 = .ok (.iload_n 2, 1) := by decide +kernel
theorem dX8_isWithin_7 : decode cX8_isWithin 7 = .ok (.if_icmp .gt 7, 3) := by decide +kernel
theorem dX8_isWithin_10 : decode cX8_isWithin 10 = .ok (.iconst 1, 1) := by decide +kernel
theorem dX8_isWithin_11 : decode cX8_isWithin 11 = .ok (.goto 4, 3) := by decide +kernel
theorem dX8_isWithin_14 : decode cX8_isWithin 14 = .ok (.iconst 0, 1) := by decide +kernel
theorem dX8_isWithin_15 : decode cX8_isWithin 15 = .ok (.ireturn, 1) := by decide +kernel
theorem dX8_isKey_0 : decode cX8_isKey 0 = .ok (.iload_n 0, 1) := by decide +kernel
theorem dX8_isKey_1 : decode cX8_isKey 1 = .ok (.iconst 0, 1) := by decide +kernel
theorem dX8_isKey_2 : decode cX8_isKey 2 = .ok (.ldc 66, 2) := by decide +kernel
theorem dX8_isKey_4 : decode cX8_isKey 4 = .ok (.invokestatic 185, 3) := by decide +kernel
theorem dX8_isKey_7 : decode cX8_isKey 7 = .ok (.ireturn, 1) := by decide +kernel
theorem dX8_isWorth_0 : decode cX8_isWorth 0 = .ok (.iload_n 0, 1) := by decide +kernel
theorem dX8_isWorth_1 : decode cX8_isWorth 1 = .ok (.iconst 0, 1) := by decide +kernel
theorem dX8_isWorth_2 : decode cX8_isWorth 2 = .ok (.sipush 9999, 3) := by decide +kernel
theorem dX8_isWorth_5 : decode cX8_isWorth 5 = .ok (.invokestatic 185, 3) := by decide +kernel
theorem dX8_isWorth_8 : decode cX8_isWorth 8 = .ok (.ireturn, 1) := by decide +kernel
theorem dX8_isImage_0 : decode cX8_isImage 0 = .ok (.iload_n 0, 1) := by decide +kernel
theorem dX8_isImage_1 : decode cX8_isImage 1 = .ok (.ifCond .lt 12, 3) := by decide +kernel
theorem dX8_isImage_4 : decode cX8_isImage 4 = .ok (.iload_n 0, 1) := by decide +kernel
theorem dX8_isImage_5 : decode cX8_isImage 5 = .ok (.iconst 2, 1) := by decide +kernel
theorem dX8_isImage_6 : decode cX8_isImage 6 = .ok (.if_icmp .ge 7, 3) := by decide +kernel
theorem dX8_isImage_9 : decode cX8_isImage 9 = .ok (.iconst 1, 1) := by decide +kernel
theorem dX8_isImage_10 : decode cX8_isImage 10 = .ok (.goto 4, 3) := by decide +kernel
theorem dX8_isImage_13 : decode cX8_isImage 13 = .ok (.iconst 0, 1) := by decide +kernel
theorem dX8_isImage_14 : decode cX8_isImage 14 = .ok (.ireturn, 1) := by decide +kernel
theorem dX8_isThere_0 : decode cX8_isThere 0 = .ok (.aload_n 0, 1) := by decide +kernel
theorem dX8_isThere_1 : decode cX8_isThere 1 = .ok (.getfield 10, 3) := by decide +kernel
theorem dX8_isThere_4 : decode cX8_isThere 4 = .ok (.getfield 40, 3) := by decide +kernel
theorem dX8_isThere_7 : decode cX8_isThere 7 = .ok (.iload_n 1, 1) := by decide +kernel
theorem dX8_isThere_8 : decode cX8_isThere 8 = .ok (.invokevirtual 138, 3) := by decide +kernel
theorem dX8_isThere_11 : decode cX8_isThere 11 = .ok (.iconst (-1), 1) := by decide +kernel
theorem dX8_isThere_12 : decode cX8_isThere 12 = .ok (.if_icmp .eq 7, 3) := by decide +kernel
theorem dX8_isThere_15 : decode cX8_isThere 15 = .ok (.iconst 1, 1) := by decide +kernel
theorem dX8_isThere_16 : decode cX8_isThere 16 = .ok (.goto 4, 3) := by decide +kernel
theorem dX8_isThere_19 : decode cX8_isThere 19 = .ok (.iconst 0, 1) := by decide +kernel
theorem dX8_isThere_20 : decode cX8_isThere 20 = .ok (.ireturn, 1) := by decide +kernel
theorem dX8_hasRoom_0 : decode cX8_hasRoom 0 = .ok (.aload_n 0, 1) := by decide +kernel
theorem dX8_hasRoom_1 : decode cX8_hasRoom 1 = .ok (.getfield 10, 3) := by decide +kernel
theorem dX8_hasRoom_4 : decode cX8_hasRoom 4 = .ok (.getfield 40, 3) := by decide +kernel
theorem dX8_hasRoom_7 : decode cX8_hasRoom 7 = .ok (.getfield 44, 3) := by decide +kernel
theorem dX8_hasRoom_10 : decode cX8_hasRoom 10 = .ok (.bipush 60, 2) := by decide +kernel
theorem dX8_hasRoom_12 : decode cX8_hasRoom 12 = .ok (.if_icmp .ge 7, 3) := by decide +kernel
theorem dX8_hasRoom_15 : decode cX8_hasRoom 15 = .ok (.iconst 1, 1) := by decide +kernel
theorem dX8_hasRoom_16 : decode cX8_hasRoom 16 = .ok (.goto 4, 3) := by decide +kernel
theorem dX8_hasRoom_19 : decode cX8_hasRoom 19 = .ok (.iconst 0, 1) := by decide +kernel
theorem dX8_hasRoom_20 : decode cX8_hasRoom 20 = .ok (.ireturn, 1) := by decide +kernel
theorem dX8_addIfItCan_0 : decode cX8_addIfItCan 0 = .ok (.iload_n 1, 1) := by decide +kernel
theorem dX8_addIfItCan_1 : decode cX8_addIfItCan 1 = .ok (.invokestatic 153, 3) := by decide +kernel
theorem dX8_addIfItCan_4 : decode cX8_addIfItCan 4 = .ok (.ifCond .eq 27, 3) := by decide +kernel
theorem dX8_addIfItCan_7 : decode cX8_addIfItCan 7 = .ok (.aload_n 0, 1) := by decide +kernel
theorem dX8_addIfItCan_8 : decode cX8_addIfItCan 8 = .ok (.iload_n 1, 1) := by decide +kernel
theorem dX8_addIfItCan_9 : decode cX8_addIfItCan 9 = .ok (.invokevirtual 160, 3) := by decide +kernel
theorem dX8_addIfItCan_12 : decode cX8_addIfItCan 12 = .ok (.ifCond .ne 19, 3) := by decide +kernel
theorem dX8_addIfItCan_15 : decode cX8_addIfItCan 15 = .ok (.aload_n 0, 1) := by decide +kernel
theorem dX8_addIfItCan_16 : decode cX8_addIfItCan 16 = .ok (.invokevirtual 164, 3) := by decide +kernel
theorem dX8_addIfItCan_19 : decode cX8_addIfItCan 19 = .ok (.ifCond .eq 12, 3) := by decide +kernel
theorem dX8_addIfItCan_22 : decode cX8_addIfItCan 22 = .ok (.aload_n 0, 1) := by decide +kernel
theorem dX8_addIfItCan_23 : decode cX8_addIfItCan 23 = .ok (.getfield 10, 3) := by decide +kernel
theorem dX8_addIfItCan_26 : decode cX8_addIfItCan 26 = .ok (.iload_n 1, 1) := by decide +kernel
theorem dX8_addIfItCan_27 : decode cX8_addIfItCan 27 = .ok (.iload_n 2, 1) := by decide +kernel
theorem dX8_addIfItCan_28 : decode cX8_addIfItCan 28 = .ok (.invokevirtual 173, 3) := by decide +kernel
theorem dX8_addIfItCan_31 : decode cX8_addIfItCan 31 = .ok (.return_, 1) := by decide +kernel
theorem dX8_addRising_0 : decode cX8_addRising 0 = .ok (.aload_n 1, 1) := by decide +kernel
theorem dX8_addRising_1 : decode cX8_addRising 1 = .ok (.aload_n 1, 1) := by decide +kernel
theorem dX8_addRising_2 : decode cX8_addRising 2 = .ok (.getfield 50, 3) := by decide +kernel
theorem dX8_addRising_5 : decode cX8_addRising 5 = .ok (.invokevirtual 147, 3) := by decide +kernel
theorem dX8_addRising_8 : decode cX8_addRising 8 = .ok (.istore_n 3, 1) := by decide +kernel
theorem dX8_addRising_9 : decode cX8_addRising 9 = .ok (.iconst 0, 1) := by decide +kernel
theorem dX8_addRising_10 : decode cX8_addRising 10 = .ok (.istore 4, 2) := by decide +kernel
theorem dX8_addRising_12 : decode cX8_addRising 12 = .ok (.iload 4, 2) := by decide +kernel
theorem dX8_addRising_14 : decode cX8_addRising 14 = .ok (.bipush 60, 2) := by decide +kernel
theorem dX8_addRising_16 : decode cX8_addRising 16 = .ok (.if_icmp .ge 53, 3) := by decide +kernel
theorem dX8_addRising_19 : decode cX8_addRising 19 = .ok (.iload_n 3, 1) := by decide +kernel
theorem dX8_addRising_20 : decode cX8_addRising 20 = .ok (.iconst (-1), 1) := by decide +kernel
theorem dX8_addRising_21 : decode cX8_addRising 21 = .ok (.if_icmp .eq 48, 3) := by decide +kernel
theorem dX8_addRising_24 : decode cX8_addRising 24 = .ok (.aload_n 1, 1) := by decide +kernel
theorem dX8_addRising_25 : decode cX8_addRising 25 = .ok (.iload_n 3, 1) := by decide +kernel
theorem dX8_addRising_26 : decode cX8_addRising 26 = .ok (.invokevirtual 53, 3) := by decide +kernel
theorem dX8_addRising_29 : decode cX8_addRising 29 = .ok (.iload_n 2, 1) := by decide +kernel
theorem dX8_addRising_30 : decode cX8_addRising 30 = .ok (.if_icmp .le 27, 3) := by decide +kernel
theorem dX8_addRising_33 : decode cX8_addRising 33 = .ok (.aload_n 0, 1) := by decide +kernel
theorem dX8_addRising_34 : decode cX8_addRising 34 = .ok (.invokevirtual 164, 3) := by decide +kernel
theorem dX8_addRising_37 : decode cX8_addRising 37 = .ok (.ifCond .eq 20, 3) := by decide +kernel
theorem dX8_addRising_40 : decode cX8_addRising 40 = .ok (.aload_n 0, 1) := by decide +kernel
theorem dX8_addRising_41 : decode cX8_addRising 41 = .ok (.getfield 10, 3) := by decide +kernel
theorem dX8_addRising_44 : decode cX8_addRising 44 = .ok (.aload_n 1, 1) := by decide +kernel
theorem dX8_addRising_45 : decode cX8_addRising 45 = .ok (.iload_n 3, 1) := by decide +kernel
theorem dX8_addRising_46 : decode cX8_addRising 46 = .ok (.invokevirtual 53, 3) := by decide +kernel
theorem dX8_addRising_49 : decode cX8_addRising 49 = .ok (.aload_n 1, 1) := by decide +kernel
theorem dX8_addRising_50 : decode cX8_addRising 50 = .ok (.iload_n 3, 1) := by decide +kernel
theorem dX8_addRising_51 : decode cX8_addRising 51 = .ok (.invokevirtual 141, 3) := by decide +kernel
theorem dX8_addRising_54 : decode cX8_addRising 54 = .ok (.invokevirtual 173, 3) := by decide +kernel
theorem dX8_addRising_57 : decode cX8_addRising 57 = .ok (.aload_n 1, 1) := by decide +kernel
theorem dX8_addRising_58 : decode cX8_addRising 58 = .ok (.iload_n 3, 1) := by decide +kernel
theorem dX8_addRising_59 : decode cX8_addRising 59 = .ok (.invokevirtual 150, 3) := by decide +kernel
theorem dX8_addRising_62 : decode cX8_addRising 62 = .ok (.istore_n 3, 1) := by decide +kernel
theorem dX8_addRising_63 : decode cX8_addRising 63 = .ok (.iinc 4 1, 3) := by decide +kernel
theorem dX8_addRising_66 : decode cX8_addRising 66 = .ok (.goto (-54), 3) := by decide +kernel
theorem dX8_addRising_69 : decode cX8_addRising 69 = .ok (.return_, 1) := by decide +kernel
theorem dX8_driftOnce_0 : decode cX8_driftOnce 0 = .ok (.aload_n 0, 1) := by decide +kernel
theorem dX8_driftOnce_1 : decode cX8_driftOnce 1 = .ok (.getfield 29, 3) := by decide +kernel
theorem dX8_driftOnce_4 : decode cX8_driftOnce 4 = .ok (.iconst 3, 1) := by decide +kernel
theorem dX8_driftOnce_5 : decode cX8_driftOnce 5 = .ok (.invokevirtual 247, 3) := by decide +kernel
theorem dX8_driftOnce_8 : decode cX8_driftOnce 8 = .ok (.istore_n 1, 1) := by decide +kernel
theorem dX8_driftOnce_9 : decode cX8_driftOnce 9 = .ok (.aload_n 0, 1) := by decide +kernel
theorem dX8_driftOnce_10 : decode cX8_driftOnce 10 = .ok (.getfield 29, 3) := by decide +kernel
theorem dX8_driftOnce_13 : decode cX8_driftOnce 13 = .ok (.sipush 200, 3) := by decide +kernel
theorem dX8_driftOnce_16 : decode cX8_driftOnce 16 = .ok (.invokevirtual 247, 3) := by decide +kernel
theorem dX8_driftOnce_19 : decode cX8_driftOnce 19 = .ok (.istore_n 2, 1) := by decide +kernel
theorem dX8_driftOnce_20 : decode cX8_driftOnce 20 = .ok (.aload_n 0, 1) := by decide +kernel
theorem dX8_driftOnce_21 : decode cX8_driftOnce 21 = .ok (.getfield 10, 3) := by decide +kernel
theorem dX8_driftOnce_24 : decode cX8_driftOnce 24 = .ok (.getfield 40, 3) := by decide +kernel
theorem dX8_driftOnce_27 : decode cX8_driftOnce 27 = .ok (.iload_n 2, 1) := by decide +kernel
theorem dX8_driftOnce_28 : decode cX8_driftOnce 28 = .ok (.invokevirtual 138, 3) := by decide +kernel
theorem dX8_driftOnce_31 : decode cX8_driftOnce 31 = .ok (.istore_n 3, 1) := by decide +kernel
theorem dX8_driftOnce_32 : decode cX8_driftOnce 32 = .ok (.iload_n 1, 1) := by decide +kernel
theorem dX8_driftOnce_33 : decode cX8_driftOnce 33 = .ok (.iconst 2, 1) := by decide +kernel
theorem dX8_driftOnce_34 : decode cX8_driftOnce 34 = .ok (.if_icmp .ne 14, 3) := by decide +kernel
theorem dX8_driftOnce_37 : decode cX8_driftOnce 37 = .ok (.aload_n 0, 1) := by decide +kernel
theorem dX8_driftOnce_38 : decode cX8_driftOnce 38 = .ok (.getfield 10, 3) := by decide +kernel
theorem dX8_driftOnce_41 : decode cX8_driftOnce 41 = .ok (.iload_n 3, 1) := by decide +kernel
theorem dX8_driftOnce_42 : decode cX8_driftOnce 42 = .ok (.invokevirtual 177, 3) := by decide +kernel
theorem dX8_driftOnce_45 : decode cX8_driftOnce 45 = .ok (.goto 32, 3) := by decide +kernel
theorem dX8_driftOnce_48 : decode cX8_driftOnce 48 = .ok (.iload_n 3, 1) := by decide +kernel
theorem dX8_driftOnce_49 : decode cX8_driftOnce 49 = .ok (.iconst (-1), 1) := by decide +kernel
theorem dX8_driftOnce_50 : decode cX8_driftOnce 50 = .ok (.if_icmp .ne 27, 3) := by decide +kernel
theorem dX8_driftOnce_53 : decode cX8_driftOnce 53 = .ok (.aload_n 0, 1) := by decide +kernel
theorem dX8_driftOnce_54 : decode cX8_driftOnce 54 = .ok (.invokevirtual 164, 3) := by decide +kernel
theorem dX8_driftOnce_57 : decode cX8_driftOnce 57 = .ok (.ifCond .eq 20, 3) := by decide +kernel
theorem dX8_driftOnce_60 : decode cX8_driftOnce 60 = .ok (.aload_n 0, 1) := by decide +kernel
theorem dX8_driftOnce_61 : decode cX8_driftOnce 61 = .ok (.getfield 10, 3) := by decide +kernel
theorem dX8_driftOnce_64 : decode cX8_driftOnce 64 = .ok (.iload_n 2, 1) := by decide +kernel
theorem dX8_driftOnce_65 : decode cX8_driftOnce 65 = .ok (.aload_n 0, 1) := by decide +kernel
theorem dX8_driftOnce_66 : decode cX8_driftOnce 66 = .ok (.getfield 29, 3) := by decide +kernel
theorem dX8_driftOnce_69 : decode cX8_driftOnce 69 = .ok (.bipush 100, 2) := by decide +kernel
theorem dX8_driftOnce_71 : decode cX8_driftOnce 71 = .ok (.invokevirtual 247, 3) := by decide +kernel
theorem dX8_driftOnce_74 : decode cX8_driftOnce 74 = .ok (.invokevirtual 173, 3) := by decide +kernel
theorem dX8_driftOnce_77 : decode cX8_driftOnce 77 = .ok (.return_, 1) := by decide +kernel
theorem dX8_costliestKey_0 : decode cX8_costliestKey 0 = .ok (.iconst (-1), 1) := by decide +kernel
theorem dX8_costliestKey_1 : decode cX8_costliestKey 1 = .ok (.istore_n 1, 1) := by decide +kernel
theorem dX8_costliestKey_2 : decode cX8_costliestKey 2 = .ok (.iconst (-1), 1) := by decide +kernel
theorem dX8_costliestKey_3 : decode cX8_costliestKey 3 = .ok (.istore_n 2, 1) := by decide +kernel
theorem dX8_costliestKey_4 : decode cX8_costliestKey 4 = .ok (.aload_n 0, 1) := by decide +kernel
theorem dX8_costliestKey_5 : decode cX8_costliestKey 5 = .ok (.getfield 10, 3) := by decide +kernel
theorem dX8_costliestKey_8 : decode cX8_costliestKey 8 = .ok (.getfield 40, 3) := by decide +kernel
theorem dX8_costliestKey_11 : decode cX8_costliestKey 11 = .ok (.aload_n 0, 1) := by decide +kernel
theorem dX8_costliestKey_12 : decode cX8_costliestKey 12 = .ok (.getfield 10, 3) := by decide +kernel
theorem dX8_costliestKey_15 : decode cX8_costliestKey 15 = .ok (.getfield 40, 3) := by decide +kernel
theorem dX8_costliestKey_18 : decode cX8_costliestKey 18 = .ok (.getfield 50, 3) := by decide +kernel
theorem dX8_costliestKey_21 : decode cX8_costliestKey 21 = .ok (.invokevirtual 147, 3) := by decide +kernel
theorem dX8_costliestKey_24 : decode cX8_costliestKey 24 = .ok (.istore_n 3, 1) := by decide +kernel
theorem dX8_costliestKey_25 : decode cX8_costliestKey 25 = .ok (.iconst 0, 1) := by decide +kernel
theorem dX8_costliestKey_26 : decode cX8_costliestKey 26 = .ok (.istore 4, 2) := by decide +kernel
theorem dX8_costliestKey_28 : decode cX8_costliestKey 28 = .ok (.iload 4, 2) := by decide +kernel
theorem dX8_costliestKey_30 : decode cX8_costliestKey 30 = .ok (.bipush 60, 2) := by decide +kernel
theorem dX8_costliestKey_32 : decode cX8_costliestKey 32 = .ok (.if_icmp .ge 82, 3) := by decide +kernel
theorem dX8_costliestKey_35 : decode cX8_costliestKey 35 = .ok (.iload_n 3, 1) := by decide +kernel
theorem dX8_costliestKey_36 : decode cX8_costliestKey 36 = .ok (.iconst (-1), 1) := by decide +kernel
theorem dX8_costliestKey_37 : decode cX8_costliestKey 37 = .ok (.if_icmp .eq 77, 3) := by decide +kernel
theorem dX8_costliestKey_40 : decode cX8_costliestKey 40 = .ok (.aload_n 0, 1) := by decide +kernel
theorem dX8_costliestKey_41 : decode cX8_costliestKey 41 = .ok (.getfield 16, 3) := by decide +kernel
theorem dX8_costliestKey_44 : decode cX8_costliestKey 44 = .ok (.aload_n 0, 1) := by decide +kernel
theorem dX8_costliestKey_45 : decode cX8_costliestKey 45 = .ok (.getfield 10, 3) := by decide +kernel
theorem dX8_costliestKey_48 : decode cX8_costliestKey 48 = .ok (.invokevirtual 192, 3) := by decide +kernel
theorem dX8_costliestKey_51 : decode cX8_costliestKey 51 = .ok (.aload_n 0, 1) := by decide +kernel
theorem dX8_costliestKey_52 : decode cX8_costliestKey 52 = .ok (.getfield 16, 3) := by decide +kernel
theorem dX8_costliestKey_55 : decode cX8_costliestKey 55 = .ok (.iload_n 3, 1) := by decide +kernel
theorem dX8_costliestKey_56 : decode cX8_costliestKey 56 = .ok (.invokevirtual 177, 3) := by decide +kernel
theorem dX8_costliestKey_59 : decode cX8_costliestKey 59 = .ok (.aload_n 0, 1) := by decide +kernel
theorem dX8_costliestKey_60 : decode cX8_costliestKey 60 = .ok (.getfield 16, 3) := by decide +kernel
