theorem dX4_slotOfKey_14 : decode cX4_slotOfKey 14 = .ok (.iconst (-1), 1) := by decide +kernel
theorem dX4_slotOfKey_15 : decode cX4_slotOfKey 15 = .ok (.if_icmp .eq 40, 3) := by decide +kernel
theorem dX4_slotOfKey_18 : decode cX4_slotOfKey 18 = .ok (.aload_n 0, 1) := by decide +kernel
theorem dX4_slotOfKey_19 : decode cX4_slotOfKey 19 = .ok (.iload_n 2, 1) := by decide +kernel
theorem dX4_slotOfKey_20 : decode cX4_slotOfKey 20 = .ok (.invokevirtual 59, 3) := by decide +kernel
theorem dX4_slotOfKey_23 : decode cX4_slotOfKey 23 = .ok (.iload_n 1, 1) := by decide +kernel
theorem dX4_slotOfKey_24 : decode cX4_slotOfKey 24 = .ok (.if_icmp .ne 5, 3) := by decide +kernel
theorem dX4_slotOfKey_27 : decode cX4_slotOfKey 27 = .ok (.iload_n 2, 1) := by decide +kernel
theorem dX4_slotOfKey_28 : decode cX4_slotOfKey 28 = .ok (.ireturn, 1) := by decide +kernel
theorem dX4_slotOfKey_29 : decode cX4_slotOfKey 29 = .ok (.aload_n 0, 1) := by decide +kernel
theorem dX4_slotOfKey_30 : decode cX4_slotOfKey 30 = .ok (.iload_n 2, 1) := by decide +kernel
theorem dX4_slotOfKey_31 : decode cX4_slotOfKey 31 = .ok (.iload_n 1, 1) := by decide +kernel
theorem dX4_slotOfKey_32 : decode cX4_slotOfKey 32 = .ok (.aload_n 0, 1) := by decide +kernel
theorem dX4_slotOfKey_33 : decode cX4_slotOfKey 33 = .ok (.iload_n 2, 1) := by decide +kernel
theorem dX4_slotOfKey_34 : decode cX4_slotOfKey 34 = .ok (.invokevirtual 59, 3) := by decide +kernel
theorem dX4_slotOfKey_37 : decode cX4_slotOfKey 37 = .ok (.if_icmp .ge 7, 3) := by decide +kernel
theorem dX4_slotOfKey_40 : decode cX4_slotOfKey 40 = .ok (.iconst 1, 1) := by decide +kernel
theorem dX4_slotOfKey_41 : decode cX4_slotOfKey 41 = .ok (.goto 4, 3) := by decide +kernel
theorem dX4_slotOfKey_44 : decode cX4_slotOfKey 44 = .ok (.iconst 0, 1) := by decide +kernel
theorem dX4_slotOfKey_45 : decode cX4_slotOfKey 45 = .ok (.invokevirtual 62, 3) := by decide +kernel
theorem dX4_slotOfKey_48 : decode cX4_slotOfKey 48 = .ok (.istore_n 2, 1) := by decide +kernel
theorem dX4_slotOfKey_49 : decode cX4_slotOfKey 49 = .ok (.iinc 3 1, 3) := by decide +kernel
theorem dX4_slotOfKey_52 : decode cX4_slotOfKey 52 = .ok (.goto (-45), 3) := by decide +kernel
theorem dX4_slotOfKey_55 : decode cX4_slotOfKey 55 = .ok (.iconst (-1), 1) := by decide +kernel
theorem dX4_slotOfKey_56 : decode cX4_slotOfKey 56 = .ok (.ireturn, 1) := by decide +kernel
theorem dX4_leastBelow_0 : decode cX4_leastBelow 0 = .ok (.aload_n 0, 1) := by decide +kernel
theorem dX4_leastBelow_1 : decode cX4_leastBelow 1 = .ok (.iload_n 1, 1) := by decide +kernel
theorem dX4_leastBelow_2 : decode cX4_leastBelow 2 = .ok (.iconst 1, 1) := by decide +kernel
theorem dX4_leastBelow_3 : decode cX4_leastBelow 3 = .ok (.invokevirtual 80, 3) := by decide +kernel
theorem dX4_leastBelow_6 : decode cX4_leastBelow 6 = .ok (.ireturn, 1) := by decide +kernel
theorem dX4_greatestBelow_0 : decode cX4_greatestBelow 0 = .ok (.aload_n 0, 1) := by decide +kernel
theorem dX4_greatestBelow_1 : decode cX4_greatestBelow 1 = .ok (.iload_n 1, 1) := by decide +kernel
theorem dX4_greatestBelow_2 : decode cX4_greatestBelow 2 = .ok (.iconst 0, 1) := by decide +kernel
theorem dX4_greatestBelow_3 : decode cX4_greatestBelow 3 = .ok (.invokevirtual 80, 3) := by decide +kernel
theorem dX4_greatestBelow_6 : decode cX4_greatestBelow 6 = .ok (.ireturn, 1) := by decide +kernel
theorem dX4_endOf_0 : decode cX4_endOf 0 = .ok (.iload_n 1, 1) := by decide +kernel
theorem dX4_endOf_1 : decode cX4_endOf 1 = .ok (.istore_n 3, 1) := by decide +kernel
theorem dX4_endOf_2 : decode cX4_endOf 2 = .ok (.iconst 0, 1) := by decide +kernel
theorem dX4_endOf_3 : decode cX4_endOf 3 = .ok (.istore 4, 2) := by decide +kernel
theorem dX4_endOf_5 : decode cX4_endOf 5 = .ok (.iload 4, 2) := by decide +kernel
theorem dX4_endOf_7 : decode cX4_endOf 7 = .ok (.bipush 60, 2) := by decide +kernel
theorem dX4_endOf_9 : decode cX4_endOf 9 = .ok (.if_icmp .ge 26, 3) := by decide +kernel
theorem dX4_endOf_12 : decode cX4_endOf 12 = .ok (.aload_n 0, 1) := by decide +kernel
theorem dX4_endOf_13 : decode cX4_endOf 13 = .ok (.iload_n 3, 1) := by decide +kernel
theorem dX4_endOf_14 : decode cX4_endOf 14 = .ok (.iload_n 2, 1) := by decide +kernel
theorem dX4_endOf_15 : decode cX4_endOf 15 = .ok (.invokevirtual 62, 3) := by decide +kernel
theorem dX4_endOf_18 : decode cX4_endOf 18 = .ok (.iconst (-1), 1) := by decide +kernel
theorem dX4_endOf_19 : decode cX4_endOf 19 = .ok (.if_icmp .eq 16, 3) := by decide +kernel
theorem dX4_endOf_22 : decode cX4_endOf 22 = .ok (.aload_n 0, 1) := by decide +kernel
theorem dX4_endOf_23 : decode cX4_endOf 23 = .ok (.iload_n 3, 1) := by decide +kernel
theorem dX4_endOf_24 : decode cX4_endOf 24 = .ok (.iload_n 2, 1) := by decide +kernel
theorem dX4_endOf_25 : decode cX4_endOf 25 = .ok (.invokevirtual 62, 3) := by decide +kernel
theorem dX4_endOf_28 : decode cX4_endOf 28 = .ok (.istore_n 3, 1) := by decide +kernel
theorem dX4_endOf_29 : decode cX4_endOf 29 = .ok (.iinc 4 1, 3) := by decide +kernel
theorem dX4_endOf_32 : decode cX4_endOf 32 = .ok (.goto (-27), 3) := by decide +kernel
theorem dX4_endOf_35 : decode cX4_endOf 35 = .ok (.iload_n 3, 1) := by decide +kernel
theorem dX4_endOf_36 : decode cX4_endOf 36 = .ok (.ireturn, 1) := by decide +kernel
theorem dX4_nextRising_0 : decode cX4_nextRising 0 = .ok (.aload_n 0, 1) := by decide +kernel
theorem dX4_nextRising_1 : decode cX4_nextRising 1 = .ok (.iload_n 1, 1) := by decide +kernel
theorem dX4_nextRising_2 : decode cX4_nextRising 2 = .ok (.invokevirtual 56, 3) := by decide +kernel
theorem dX4_nextRising_5 : decode cX4_nextRising 5 = .ok (.iconst (-1), 1) := by decide +kernel
theorem dX4_nextRising_6 : decode cX4_nextRising 6 = .ok (.if_icmp .eq 13, 3) := by decide +kernel
theorem dX4_nextRising_9 : decode cX4_nextRising 9 = .ok (.aload_n 0, 1) := by decide +kernel
theorem dX4_nextRising_10 : decode cX4_nextRising 10 = .ok (.aload_n 0, 1) := by decide +kernel
theorem dX4_nextRising_11 : decode cX4_nextRising 11 = .ok (.iload_n 1, 1) := by decide +kernel
theorem dX4_nextRising_12 : decode cX4_nextRising 12 = .ok (.invokevirtual 56, 3) := by decide +kernel
theorem dX4_nextRising_15 : decode cX4_nextRising 15 = .ok (.invokevirtual 83, 3) := by decide +kernel
theorem dX4_nextRising_18 : decode cX4_nextRising 18 = .ok (.ireturn, 1) := by decide +kernel
theorem dX4_nextRising_19 : decode cX4_nextRising 19 = .ok (.iload_n 1, 1) := by decide +kernel
theorem dX4_nextRising_20 : decode cX4_nextRising 20 = .ok (.istore_n 2, 1) := by decide +kernel
theorem dX4_nextRising_21 : decode cX4_nextRising 21 = .ok (.aload_n 0, 1) := by decide +kernel
theorem dX4_nextRising_22 : decode cX4_nextRising 22 = .ok (.iload_n 1, 1) := by decide +kernel
theorem dX4_nextRising_23 : decode cX4_nextRising 23 = .ok (.invokevirtual 77, 3) := by decide +kernel
theorem dX4_nextRising_26 : decode cX4_nextRising 26 = .ok (.istore_n 3, 1) := by decide +kernel
theorem dX4_nextRising_27 : decode cX4_nextRising 27 = .ok (.iconst 0, 1) := by decide +kernel
theorem dX4_nextRising_28 : decode cX4_nextRising 28 = .ok (.istore 4, 2) := by decide +kernel
theorem dX4_nextRising_30 : decode cX4_nextRising 30 = .ok (.iload 4, 2) := by decide +kernel
theorem dX4_nextRising_32 : decode cX4_nextRising 32 = .ok (.bipush 60, 2) := by decide +kernel
theorem dX4_nextRising_34 : decode cX4_nextRising 34 = .ok (.if_icmp .ge 31, 3) := by decide +kernel
theorem dX4_nextRising_37 : decode cX4_nextRising 37 = .ok (.iload_n 3, 1) := by decide +kernel
theorem dX4_nextRising_38 : decode cX4_nextRising 38 = .ok (.iconst (-1), 1) := by decide +kernel
theorem dX4_nextRising_39 : decode cX4_nextRising 39 = .ok (.if_icmp .eq 26, 3) := by decide +kernel
theorem dX4_nextRising_42 : decode cX4_nextRising 42 = .ok (.aload_n 0, 1) := by decide +kernel
theorem dX4_nextRising_43 : decode cX4_nextRising 43 = .ok (.iload_n 3, 1) := by decide +kernel
theorem dX4_nextRising_44 : decode cX4_nextRising 44 = .ok (.invokevirtual 53, 3) := by decide +kernel
theorem dX4_nextRising_47 : decode cX4_nextRising 47 = .ok (.iload_n 2, 1) := by decide +kernel
theorem dX4_nextRising_48 : decode cX4_nextRising 48 = .ok (.if_icmp .eq 17, 3) := by decide +kernel
theorem dX4_nextRising_51 : decode cX4_nextRising 51 = .ok (.iload_n 3, 1) := by decide +kernel
theorem dX4_nextRising_52 : decode cX4_nextRising 52 = .ok (.istore_n 2, 1) := by decide +kernel
theorem dX4_nextRising_53 : decode cX4_nextRising 53 = .ok (.aload_n 0, 1) := by decide +kernel
theorem dX4_nextRising_54 : decode cX4_nextRising 54 = .ok (.iload_n 2, 1) := by decide +kernel
theorem dX4_nextRising_55 : decode cX4_nextRising 55 = .ok (.invokevirtual 77, 3) := by decide +kernel
theorem dX4_nextRising_58 : decode cX4_nextRising 58 = .ok (.istore_n 3, 1) := by decide +kernel
theorem dX4_nextRising_59 : decode cX4_nextRising 59 = .ok (.iinc 4 1, 3) := by decide +kernel
theorem dX4_nextRising_62 : decode cX4_nextRising 62 = .ok (.goto (-32), 3) := by decide +kernel
theorem dX4_nextRising_65 : decode cX4_nextRising 65 = .ok (.iload_n 3, 1) := by decide +kernel
theorem dX4_nextRising_66 : decode cX4_nextRising 66 = .ok (.ireturn, 1) := by decide +kernel
theorem dX4_nextByNumber_0 : decode cX4_nextByNumber 0 = .ok (.aload_n 0, 1) := by decide +kernel
theorem dX4_nextByNumber_1 : decode cX4_nextByNumber 1 = .ok (.iload_n 1, 1) := by decide +kernel
theorem dX4_nextByNumber_2 : decode cX4_nextByNumber 2 = .ok (.invokevirtual 53, 3) := by decide +kernel
theorem dX4_nextByNumber_5 : decode cX4_nextByNumber 5 = .ok (.iconst (-1), 1) := by decide +kernel
theorem dX4_nextByNumber_6 : decode cX4_nextByNumber 6 = .ok (.if_icmp .eq 9, 3) := by decide +kernel
theorem dX4_nextByNumber_9 : decode cX4_nextByNumber 9 = .ok (.aload_n 0, 1) := by decide +kernel
theorem dX4_nextByNumber_10 : decode cX4_nextByNumber 10 = .ok (.iload_n 1, 1) := by decide +kernel
theorem dX4_nextByNumber_11 : decode cX4_nextByNumber 11 = .ok (.invokevirtual 53, 3) := by decide +kernel
theorem dX4_nextByNumber_14 : decode cX4_nextByNumber 14 = .ok (.ireturn, 1) := by decide +kernel
theorem dX4_nextByNumber_15 : decode cX4_nextByNumber 15 = .ok (.aload_n 0, 1) := by decide +kernel
theorem dX4_nextByNumber_16 : decode cX4_nextByNumber 16 = .ok (.iload_n 1, 1) := by decide +kernel
theorem dX4_nextByNumber_17 : decode cX4_nextByNumber 17 = .ok (.invokevirtual 56, 3) := by decide +kernel
theorem dX4_nextByNumber_20 : decode cX4_nextByNumber 20 = .ok (.iconst (-1), 1) := by decide +kernel
theorem dX4_nextByNumber_21 : decode cX4_nextByNumber 21 = .ok (.if_icmp .eq 9, 3) := by decide +kernel
theorem dX4_nextByNumber_24 : decode cX4_nextByNumber 24 = .ok (.aload_n 0, 1) := by decide +kernel
theorem dX4_nextByNumber_25 : decode cX4_nextByNumber 25 = .ok (.iload_n 1, 1) := by decide +kernel
theorem dX4_nextByNumber_26 : decode cX4_nextByNumber 26 = .ok (.invokevirtual 56, 3) := by decide +kernel
theorem dX4_nextByNumber_29 : decode cX4_nextByNumber 29 = .ok (.ireturn, 1) := by decide +kernel
theorem dX4_nextByNumber_30 : decode cX4_nextByNumber 30 = .ok (.iload_n 1, 1) := by decide +kernel
theorem dX4_nextByNumber_31 : decode cX4_nextByNumber 31 = .ok (.istore_n 2, 1) := by decide +kernel
theorem dX4_nextByNumber_32 : decode cX4_nextByNumber 32 = .ok (.aload_n 0, 1) := by decide +kernel
theorem dX4_nextByNumber_33 : decode cX4_nextByNumber 33 = .ok (.iload_n 1, 1) := by decide +kernel
theorem dX4_nextByNumber_34 : decode cX4_nextByNumber 34 = .ok (.invokevirtual 77, 3) := by decide +kernel
theorem dX4_nextByNumber_37 : decode cX4_nextByNumber 37 = .ok (.istore_n 3, 1) := by decide +kernel
theorem dX4_nextByNumber_38 : decode cX4_nextByNumber 38 = .ok (.iconst 0, 1) := by decide +kernel
theorem dX4_nextByNumber_39 : decode cX4_nextByNumber 39 = .ok (.istore 4, 2) := by decide +kernel
theorem dX4_nextByNumber_41 : decode cX4_nextByNumber 41 = .ok (.iload 4, 2) := by decide +kernel
theorem dX4_nextByNumber_43 : decode cX4_nextByNumber 43 = .ok (.bipush 60, 2) := by decide +kernel
theorem dX4_nextByNumber_45 : decode cX4_nextByNumber 45 = .ok (.if_icmp .ge 46, 3) := by decide +kernel
theorem dX4_nextByNumber_48 : decode cX4_nextByNumber 48 = .ok (.iload_n 3, 1) := by decide +kernel
theorem dX4_nextByNumber_49 : decode cX4_nextByNumber 49 = .ok (.iconst (-1), 1) := by decide +kernel
theorem dX4_nextByNumber_50 : decode cX4_nextByNumber 50 = .ok (.if_icmp .eq 41, 3) := by decide +kernel
theorem dX4_nextByNumber_53 : decode cX4_nextByNumber 53 = .ok (.aload_n 0, 1) := by decide +kernel
theorem dX4_nextByNumber_54 : decode cX4_nextByNumber 54 = .ok (.iload_n 3, 1) := by decide +kernel
theorem dX4_nextByNumber_55 : decode cX4_nextByNumber 55 = .ok (.invokevirtual 53, 3) := by decide +kernel
theorem dX4_nextByNumber_58 : decode cX4_nextByNumber 58 = .ok (.iload_n 2, 1) := by decide +kernel
theorem dX4_nextByNumber_59 : decode cX4_nextByNumber 59 = .ok (.if_icmp .ne 18, 3) := by decide +kernel
theorem dX4_nextByNumber_62 : decode cX4_nextByNumber 62 = .ok (.aload_n 0, 1) := by decide +kernel
theorem dX4_nextByNumber_63 : decode cX4_nextByNumber 63 = .ok (.iload_n 3, 1) := by decide +kernel
theorem dX4_nextByNumber_64 : decode cX4_nextByNumber 64 = .ok (.invokevirtual 56, 3) := by decide +kernel
theorem dX4_nextByNumber_67 : decode cX4_nextByNumber 67 = .ok (.iconst (-1), 1) := by decide +kernel
theorem dX4_nextByNumber_68 : decode cX4_nextByNumber 68 = .ok (.if_icmp .eq 9, 3) := by decide +kernel
theorem dX4_nextByNumber_71 : decode cX4_nextByNumber 71 = .ok (.aload_n 0, 1) := by decide +kernel
theorem dX4_nextByNumber_72 : decode cX4_nextByNumber 72 = .ok (.iload_n 3, 1) := by decide +kernel
theorem dX4_nextByNumber_73 : decode cX4_nextByNumber 73 = .ok (.invokevirtual 56, 3) := by decide +kernel
theorem dX4_nextByNumber_76 : decode cX4_nextByNumber 76 = .ok (.ireturn, 1) := by decide +kernel
theorem dX4_nextByNumber_77 : decode cX4_nextByNumber 77 = .ok (.iload_n 3, 1) := by decide +kernel
theorem dX4_nextByNumber_78 : decode cX4_nextByNumber 78 = .ok (.istore_n 2, 1) := by decide +kernel
theorem dX4_nextByNumber_79 : decode cX4_nextByNumber 79 = .ok (.aload_n 0, 1) := by decide +kernel
theorem dX4_nextByNumber_80 : decode cX4_nextByNumber 80 = .ok (.iload_n 2, 1) := by decide +kernel
theorem dX4_nextByNumber_81 : decode cX4_nextByNumber 81 = .ok (.invokevirtual 77, 3) := by decide +kernel
theorem dX4_nextByNumber_84 : decode cX4_nextByNumber 84 = .ok (.istore_n 3, 1) := by decide +kernel
theorem dX4_nextByNumber_85 : decode cX4_nextByNumber 85 = .ok (.iinc 4 1, 3) := by decide +kernel
theorem dX4_nextByNumber_88 : decode cX4_nextByNumber 88 = .ok (.goto (-47), 3) := by decide +kernel
theorem dX4_nextByNumber_91 : decode cX4_nextByNumber 91 = .ok (.iconst (-1), 1) := by decide +kernel
theorem dX4_nextByNumber_92 : decode cX4_nextByNumber 92 = .ok (.ireturn, 1) := by decide +kernel
theorem dX4_slotOfNumber_0 : decode cX4_slotOfNumber 0 = .ok (.iload_n 1, 1) := by decide +kernel
theorem dX4_slotOfNumber_1 : decode cX4_slotOfNumber 1 = .ok (.ifCond .lt 11, 3) := by decide +kernel
theorem dX4_slotOfNumber_4 : decode cX4_slotOfNumber 4 = .ok (.iload_n 1, 1) := by decide +kernel
theorem dX4_slotOfNumber_5 : decode cX4_slotOfNumber 5 = .ok (.aload_n 0, 1) := by decide +kernel
theorem dX4_slotOfNumber_6 : decode cX4_slotOfNumber 6 = .ok (.getfield 34, 3) := by decide +kernel
theorem dX4_slotOfNumber_9 : decode cX4_slotOfNumber 9 = .ok (.if_icmp .lt 5, 3) := by decide +kernel
theorem dX4_slotOfNumber_12 : decode cX4_slotOfNumber 12 = .ok (.iconst (-1), 1) := by decide +kernel
theorem dX4_slotOfNumber_13 : decode cX4_slotOfNumber 13 = .ok (.ireturn, 1) := by decide +kernel
theorem dX4_slotOfNumber_14 : decode cX4_slotOfNumber 14 = .ok (.aload_n 0, 1) := by decide +kernel
theorem dX4_slotOfNumber_15 : decode cX4_slotOfNumber 15 = .ok (.getfield 30, 3) := by decide +kernel
theorem dX4_slotOfNumber_18 : decode cX4_slotOfNumber 18 = .ok (.istore_n 2, 1) := by decide +kernel
theorem dX4_slotOfNumber_19 : decode cX4_slotOfNumber 19 = .ok (.iconst 0, 1) := by decide +kernel
theorem dX4_slotOfNumber_20 : decode cX4_slotOfNumber 20 = .ok (.istore_n 3, 1) := by decide +kernel
theorem dX4_slotOfNumber_21 : decode cX4_slotOfNumber 21 = .ok (.iload_n 3, 1) := by decide +kernel
theorem dX4_slotOfNumber_22 : decode cX4_slotOfNumber 22 = .ok (.iload_n 1, 1) := by decide +kernel
theorem dX4_slotOfNumber_23 : decode cX4_slotOfNumber 23 = .ok (.if_icmp .ge 15, 3) := by decide +kernel
theorem dX4_slotOfNumber_26 : decode cX4_slotOfNumber 26 = .ok (.aload_n 0, 1) := by decide +kernel
theorem dX4_slotOfNumber_27 : decode cX4_slotOfNumber 27 = .ok (.iload_n 2, 1) := by decide +kernel
theorem dX4_slotOfNumber_28 : decode cX4_slotOfNumber 28 = .ok (.invokevirtual 86, 3) := by decide +kernel
theorem dX4_slotOfNumber_31 : decode cX4_slotOfNumber 31 = .ok (.istore_n 2, 1) := by decide +kernel
theorem dX4_slotOfNumber_32 : decode cX4_slotOfNumber 32 = .ok (.iinc 3 1, 3) := by decide +kernel
theorem dX4_slotOfNumber_35 : decode cX4_slotOfNumber 35 = .ok (.goto (-14), 3) := by decide +kernel
theorem dX4_slotOfNumber_38 : decode cX4_slotOfNumber 38 = .ok (.iload_n 2, 1) := by decide +kernel
theorem dX4_slotOfNumber_39 : decode cX4_slotOfNumber 39 = .ok (.ireturn, 1) := by decide +kernel
theorem dX4_numberOfSlot_0 : decode cX4_numberOfSlot 0 = .ok (.aload_n 0, 1) := by decide +kernel
theorem dX4_numberOfSlot_1 : decode cX4_numberOfSlot 1 = .ok (.getfield 30, 3) := by decide +kernel
theorem dX4_numberOfSlot_4 : decode cX4_numberOfSlot 4 = .ok (.istore_n 2, 1) := by decide +kernel
theorem dX4_numberOfSlot_5 : decode cX4_numberOfSlot 5 = .ok (.iconst 0, 1) := by decide +kernel
theorem dX4_numberOfSlot_6 : decode cX4_numberOfSlot 6 = .ok (.istore_n 3, 1) := by decide +kernel
theorem dX4_numberOfSlot_7 : decode cX4_numberOfSlot 7 = .ok (.iload_n 3, 1) := by decide +kernel
theorem dX4_numberOfSlot_8 : decode cX4_numberOfSlot 8 = .ok (.aload_n 0, 1) := by decide +kernel
theorem dX4_numberOfSlot_9 : decode cX4_numberOfSlot 9 = .ok (.getfield 34, 3) := by decide +kernel
theorem dX4_numberOfSlot_12 : decode cX4_numberOfSlot 12 = .ok (.if_icmp .ge 22, 3) := by decide +kernel
theorem dX4_numberOfSlot_15 : decode cX4_numberOfSlot 15 = .ok (.iload_n 2, 1) := by decide +kernel
theorem dX4_numberOfSlot_16 : decode cX4_numberOfSlot 16 = .ok (.iload_n 1, 1) := by decide +kernel
theorem dX4_numberOfSlot_17 : decode cX4_numberOfSlot 17 = .ok (.if_icmp .ne 5, 3) := by decide +kernel
theorem dX4_numberOfSlot_20 : decode cX4_numberOfSlot 20 = .ok (.iload_n 3, 1) := by decide +kernel
theorem dX4_numberOfSlot_21 : decode cX4_numberOfSlot 21 = .ok (.ireturn, 1) := by decide +kernel
theorem dX4_numberOfSlot_22 : decode cX4_numberOfSlot 22 = .ok (.aload_n 0, 1) := by decide +kernel
theorem dX4_numberOfSlot_23 : decode cX4_numberOfSlot 23 = .ok (.iload_n 2, 1) := by decide +kernel
theorem dX4_numberOfSlot_24 : decode cX4_numberOfSlot 24 = .ok (.invokevirtual 86, 3) := by decide +kernel
theorem dX4_numberOfSlot_27 : decode cX4_numberOfSlot 27 = .ok (.istore_n 2, 1) := by decide +kernel
theorem dX4_numberOfSlot_28 : decode cX4_numberOfSlot 28 = .ok (.iinc 3 1, 3) := by decide +kernel
theorem dX4_numberOfSlot_31 : decode cX4_numberOfSlot 31 = .ok (.goto (-24), 3) := by decide +kernel
theorem dX4_numberOfSlot_34 : decode cX4_numberOfSlot 34 = .ok (.iconst (-1), 1) := by decide +kernel
theorem dX4_numberOfSlot_35 : decode cX4_numberOfSlot 35 = .ok (.ireturn, 1) := by decide +kernel
theorem dX4_howManyAbove_0 : decode cX4_howManyAbove 0 = .ok (.iconst 0, 1) := by decide +kernel
theorem dX4_howManyAbove_1 : decode cX4_howManyAbove 1 = .ok (.istore_n 2, 1) := by decide +kernel
theorem dX4_howManyAbove_2 : decode cX4_howManyAbove 2 = .ok (.aload_n 0, 1) := by decide +kernel
theorem dX4_howManyAbove_3 : decode cX4_howManyAbove 3 = .ok (.iload_n 1, 1) := by decide +kernel
theorem dX4_howManyAbove_4 : decode cX4_howManyAbove 4 = .ok (.invokevirtual 77, 3) := by decide +kernel
theorem dX4_howManyAbove_7 : decode cX4_howManyAbove 7 = .ok (.istore_n 3, 1) := by decide +kernel
theorem dX4_howManyAbove_8 : decode cX4_howManyAbove 8 = .ok (.iconst 0, 1) := by decide +kernel
theorem dX4_howManyAbove_9 : decode cX4_howManyAbove 9 = .ok (.istore 4, 2) := by decide +kernel
theorem dX4_howManyAbove_11 : decode cX4_howManyAbove 11 = .ok (.iload 4, 2) := by decide +kernel
theorem dX4_howManyAbove_13 : decode cX4_howManyAbove 13 = .ok (.bipush 60, 2) := by decide +kernel
theorem dX4_howManyAbove_15 : decode cX4_howManyAbove 15 = .ok (.if_icmp .ge 23, 3) := by decide +kernel
theorem dX4_howManyAbove_18 : decode cX4_howManyAbove 18 = .ok (.iload_n 3, 1) := by decide +kernel
theorem dX4_howManyAbove_19 : decode cX4_howManyAbove 19 = .ok (.iconst (-1), 1) := by decide +kernel
theorem dX4_howManyAbove_20 : decode cX4_howManyAbove 20 = .ok (.if_icmp .eq 18, 3) := by decide +kernel
theorem dX4_howManyAbove_23 : decode cX4_howManyAbove 23 = .ok (.iinc 2 1, 3) := by decide +kernel
theorem dX4_howManyAbove_26 : decode cX4_howManyAbove 26 = .ok (.aload_n 0, 1) := by decide +kernel
theorem dX4_howManyAbove_27 : decode cX4_howManyAbove 27 = .ok (.iload_n 3, 1) := by decide +kernel
theorem dX4_howManyAbove_28 : decode cX4_howManyAbove 28 = .ok (.invokevirtual 77, 3) := by decide +kernel
theorem dX4_howManyAbove_31 : decode cX4_howManyAbove 31 = .ok (.istore_n 3, 1) := by decide +kernel
theorem dX4_howManyAbove_32 : decode cX4_howManyAbove 32 = .ok (.iinc 4 1, 3) := by decide +kernel
theorem dX4_howManyAbove_35 : decode cX4_howManyAbove 35 = .ok (.goto (-24), 3) := by decide +kernel
theorem dX4_howManyAbove_38 : decode cX4_howManyAbove 38 = .ok (.iload_n 2, 1) := by decide +kernel
theorem dX4_howManyAbove_39 : decode cX4_howManyAbove 39 = .ok (.ireturn, 1) := by decide +kernel
theorem dX5_init_0 : decode cX5_init 0 = .ok (.aload_n 0, 1) := by decide +kernel
theorem dX5_init_1 : decode cX5_init 1 = .ok (.invokespecial 3, 3) := by decide +kernel
theorem dX5_init_4 : decode cX5_init 4 = .ok (.aload_n 0, 1) := by decide +kernel
theorem dX5_init_5 : decode cX5_init 5 = .ok (.bipush 12, 2) := by decide +kernel
theorem dX5_init_7 : decode cX5_init 7 = .ok (.anewarray 9, 3) := by decide +kernel
theorem dX5_init_10 : decode cX5_init 10 = .ok (.putfield 11, 3) := by decide +kernel
theorem dX5_init_13 : decode cX5_init 13 = .ok (.aload_n 0, 1) := by decide +kernel
theorem dX5_init_14 : decode cX5_init 14 = .ok (.iconst 0, 1) := by decide +kernel
theorem dX5_init_15 : decode cX5_init 15 = .ok (.putfield 17, 3) := by decide +kernel
theorem dX5_init_18 : decode cX5_init 18 = .ok (.aload_n 0, 1) := by decide +kernel
theorem dX5_init_19 : decode cX5_init 19 = .ok (.iconst 0, 1) := by decide +kernel
theorem dX5_init_20 : decode cX5_init 20 = .ok (.putfield 21, 3) := by decide +kernel
theorem dX5_init_23 : decode cX5_init 23 = .ok (.iconst 0, 1) := by decide +kernel
theorem dX5_init_24 : decode cX5_init 24 = .ok (.istore_n 1, 1) := by decide +kernel
theorem dX5_init_25 : decode cX5_init 25 = .ok (.iload_n 1, 1) := by decide +kernel
theorem dX5_init_26 : decode cX5_init 26 = .ok (.bipush 12, 2) := by decide +kernel
theorem dX5_init_28 : decode cX5_init 28 = .ok (.if_icmp .ge 22, 3) := by decide +kernel
theorem dX5_init_31 : decode cX5_init 31 = .ok (.aload_n 0, 1) := by decide +kernel
theorem dX5_init_32 : decode cX5_init 32 = .ok (.getfield 11, 3) := by decide +kernel
theorem dX5_init_35 : decode cX5_init 35 = .ok (.iload_n 1, 1) := by decide +kernel
theorem dX5_init_36 : decode cX5_init 36 = .ok (.new 9, 3) := by decide +kernel
theorem dX5_init_39 : decode cX5_init 39 = .ok (.dup, 1) := by decide +kernel
theorem dX5_init_40 : decode cX5_init 40 = .ok (.invokespecial 24, 3) := by decide +kernel
theorem dX5_init_43 : decode cX5_init 43 = .ok (.aastore, 1) := by decide +kernel
theorem dX5_init_44 : decode cX5_init 44 = .ok (.iinc 1 1, 3) := by decide +kernel
theorem dX5_init_47 : decode cX5_init 47 = .ok (.goto (-22), 3) := by decide +kernel
theorem dX5_init_50 : decode cX5_init 50 = .ok (.return_, 1) := by decide +kernel
theorem dX5_remember_0 : decode cX5_remember 0 = .ok (.aload_n 0, 1) := by decide +kernel
theorem dX5_remember_1 : decode cX5_remember 1 = .ok (.getfield 17, 3) := by decide +kernel
theorem dX5_remember_4 : decode cX5_remember 4 = .ok (.ifCond .lt 12, 3) := by decide +kernel
theorem dX5_remember_7 : decode cX5_remember 7 = .ok (.aload_n 0, 1) := by decide +kernel
theorem dX5_remember_8 : decode cX5_remember 8 = .ok (.getfield 17, 3) := by decide +kernel
theorem dX5_remember_11 : decode cX5_remember 11 = .ok (.bipush 12, 2) := by decide +kernel
theorem dX5_remember_13 : decode cX5_remember 13 = .ok (.if_icmp .lt 4, 3) := by decide +kernel
theorem dX5_remember_16 : decode cX5_remember 16 = .ok (.return_, 1) := by decide +kernel
theorem dX5_remember_17 : decode cX5_remember 17 = .ok (.aload_n 0, 1) := by decide +kernel
theorem dX5_remember_18 : decode cX5_remember 18 = .ok (.getfield 11, 3) := by decide +kernel
theorem dX5_remember_21 : decode cX5_remember 21 = .ok (.aload_n 0, 1) := by decide +kernel
theorem dX5_remember_22 : decode cX5_remember 22 = .ok (.getfield 17, 3) := by decide +kernel
theorem dX5_remember_25 : decode cX5_remember 25 = .ok (.aaload, 1) := by decide +kernel
theorem dX5_remember_26 : decode cX5_remember 26 = .ok (.aload_n 1, 1) := by decide +kernel
theorem dX5_remember_27 : decode cX5_remember 27 = .ok (.invokevirtual 25, 3) := by decide +kernel
theorem dX5_remember_30 : decode cX5_remember 30 = .ok (.aload_n 0, 1) := by decide +kernel
theorem dX5_remember_31 : decode cX5_remember 31 = .ok (.aload_n 0, 1) := by decide +kernel
theorem dX5_remember_32 : decode cX5_remember 32 = .ok (.getfield 17, 3) := by decide +kernel
theorem dX5_remember_35 : decode cX5_remember 35 = .ok (.iconst 1, 1) := by decide +kernel
theorem dX5_remember_36 : decode cX5_remember 36 = .ok (.iadd, 1) := by decide +kernel
theorem dX5_remember_37 : decode cX5_remember 37 = .ok (.bipush 12, 2) := by decide +kernel
theorem dX5_remember_39 : decode cX5_remember 39 = .ok (.if_icmp .ne 7, 3) := by decide +kernel
theorem dX5_remember_42 : decode cX5_remember 42 = .ok (.iconst 0, 1) := by decide +kernel
theorem dX5_remember_43 : decode cX5_remember 43 = .ok (.goto 9, 3) := by decide +kernel
theorem dX5_remember_46 : decode cX5_remember 46 = .ok (.aload_n 0, 1) := by decide +kernel
theorem dX5_remember_47 : decode cX5_remember 47 = .ok (.getfield 17, 3) := by decide +kernel
theorem dX5_remember_50 : decode cX5_remember 50 = .ok (.iconst 1, 1) := by decide +kernel
theorem dX5_remember_51 : decode cX5_remember 51 = .ok (.iadd, 1) := by decide +kernel
theorem dX5_remember_52 : decode cX5_remember 52 = .ok (.putfield 17, 3) := by decide +kernel
theorem dX5_remember_55 : decode cX5_remember 55 = .ok (.aload_n 0, 1) := by decide +kernel
theorem dX5_remember_56 : decode cX5_remember 56 = .ok (.aload_n 0, 1) := by decide +kernel
theorem dX5_remember_57 : decode cX5_remember 57 = .ok (.getfield 21, 3) := by decide +kernel
theorem dX5_remember_60 : decode cX5_remember 60 = .ok (.iconst 1, 1) := by decide +kernel
theorem dX5_remember_61 : decode cX5_remember 61 = .ok (.iadd, 1) := by decide +kernel
theorem dX5_remember_62 : decode cX5_remember 62 = .ok (.bipush 12, 2) := by decide +kernel
theorem dX5_remember_64 : decode cX5_remember 64 = .ok (.invokestatic 29, 3) := by decide +kernel
theorem dX5_remember_67 : decode cX5_remember 67 = .ok (.putfield 21, 3) := by decide +kernel
theorem dX5_remember_70 : decode cX5_remember 70 = .ok (.return_, 1) := by decide +kernel
theorem dX5_restore_0 : decode cX5_restore 0 = .ok (.aload_n 0, 1) := by decide +kernel
theorem dX5_restore_1 : decode cX5_restore 1 = .ok (.getfield 17, 3) := by decide +kernel
theorem dX5_restore_4 : decode cX5_restore 4 = .ok (.iload_n 2, 1) := by decide +kernel
theorem dX5_restore_5 : decode cX5_restore 5 = .ok (.isub, 1) := by decide +kernel
theorem dX5_restore_6 : decode cX5_restore 6 = .ok (.ifCond .ge 15, 3) := by decide +kernel
theorem dX5_restore_9 : decode cX5_restore 9 = .ok (.aload_n 0, 1) := by decide +kernel
theorem dX5_restore_10 : decode cX5_restore 10 = .ok (.getfield 17, 3) := by decide +kernel
theorem dX5_restore_13 : decode cX5_restore 13 = .ok (.iload_n 2, 1) := by decide +kernel
theorem dX5_restore_14 : decode cX5_restore 14 = .ok (.isub, 1) := by decide +kernel
theorem dX5_restore_15 : decode cX5_restore 15 = .ok (.bipush 12, 2) := by decide +kernel
theorem dX5_restore_17 : decode cX5_restore 17 = .ok (.iadd, 1) := by decide +kernel
theorem dX5_restore_18 : decode cX5_restore 18 = .ok (.goto 9, 3) := by decide +kernel
theorem dX5_restore_21 : decode cX5_restore 21 = .ok (.aload_n 0, 1) := by decide +kernel
theorem dX5_restore_22 : decode cX5_restore 22 = .ok (.getfield 17, 3) := by decide +kernel
theorem dX5_restore_25 : decode cX5_restore 25 = .ok (.iload_n 2, 1) := by decide +kernel
theorem dX5_restore_26 : decode cX5_restore 26 = .ok (.isub, 1) := by decide +kernel
theorem dX5_restore_27 : decode cX5_restore 27 = .ok (.istore_n 3, 1) := by decide +kernel
theorem dX5_restore_28 : decode cX5_restore 28 = .ok (.iload_n 2, 1) := by decide +kernel
theorem dX5_restore_29 : decode cX5_restore 29 = .ok (.aload_n 0, 1) := by decide +kernel
theorem dX5_restore_30 : decode cX5_restore 30 = .ok (.getfield 21, 3) := by decide +kernel
theorem dX5_restore_33 : decode cX5_restore 33 = .ok (.if_icmp .gt 13, 3) := by decide +kernel
theorem dX5_restore_36 : decode cX5_restore 36 = .ok (.iload_n 3, 1) := by decide +kernel
theorem dX5_restore_37 : decode cX5_restore 37 = .ok (.ifCond .lt 9, 3) := by decide +kernel
theorem dX5_restore_40 : decode cX5_restore 40 = .ok (.iload_n 3, 1) := by decide +kernel
theorem dX5_restore_41 : decode cX5_restore 41 = .ok (.bipush 12, 2) := by decide +kernel
theorem dX5_restore_43 : decode cX5_restore 43 = .ok (.if_icmp .lt 4, 3) := by decide +kernel
theorem dX5_restore_46 : decode cX5_restore 46 = .ok (.return_, 1) := by decide +kernel
theorem dX5_restore_47 : decode cX5_restore 47 = .ok (.aload_n 1, 1) := by decide +kernel
theorem dX5_restore_48 : decode cX5_restore 48 = .ok (.aload_n 0, 1) := by decide +kernel
theorem dX5_restore_49 : decode cX5_restore 49 = .ok (.getfield 11, 3) := by decide +kernel
theorem dX5_restore_52 : decode cX5_restore 52 = .ok (.iload_n 3, 1) := by decide +kernel
theorem dX5_restore_53 : decode cX5_restore 53 = .ok (.aaload, 1) := by decide +kernel
theorem dX5_restore_54 : decode cX5_restore 54 = .ok (.invokevirtual 25, 3) := by decide +kernel
theorem dX5_restore_57 : decode cX5_restore 57 = .ok (.aload_n 0, 1) := by decide +kernel
theorem dX5_restore_58 : decode cX5_restore 58 = .ok (.iload_n 3, 1) := by decide +kernel
theorem dX5_restore_59 : decode cX5_restore 59 = .ok (.putfield 17, 3) := by decide +kernel
theorem dX5_restore_62 : decode cX5_restore 62 = .ok (.aload_n 0, 1) := by decide +kernel
theorem dX5_restore_63 : decode cX5_restore 63 = .ok (.dup, 1) := by decide +kernel
theorem dX5_restore_64 : decode cX5_restore 64 = .ok (.getfield 21, 3) := by decide +kernel
theorem dX5_restore_67 : decode cX5_restore 67 = .ok (.iload_n 2, 1) := by decide +kernel
theorem dX5_restore_68 : decode cX5_restore 68 = .ok (.isub, 1) := by decide +kernel
theorem dX5_restore_69 : decode cX5_restore 69 = .ok (.putfield 21, 3) := by decide +kernel
theorem dX5_restore_72 : decode cX5_restore 72 = .ok (.return_, 1) := by decide +kernel
theorem dX5_forget_0 : decode cX5_forget 0 = .ok (.aload_n 0, 1) := by decide +kernel
theorem dX5_forget_1 : decode cX5_forget 1 = .ok (.iconst 0, 1) := by decide +kernel
theorem dX5_forget_2 : decode cX5_forget 2 = .ok (.putfield 21, 3) := by decide +kernel
theorem dX5_forget_5 : decode cX5_forget 5 = .ok (.return_, 1) := by decide +kernel
theorem dX6_isFrom_0 : decode cX6_isFrom 0 = .ok (.aload_n 0, 1) := by decide +kernel
theorem dX6_isFrom_1 : decode cX6_isFrom 1 = .ok (.iload_n 1, 1) := by decide +kernel
theorem dX6_isFrom_2 : decode cX6_isFrom 2 = .ok (.invokevirtual 9, 3) := by decide +kernel
theorem dX6_isFrom_5 : decode cX6_isFrom 5 = .ok (.istore 4, 2) := by decide +kernel
theorem dX6_isFrom_7 : decode cX6_isFrom 7 = .ok (.iload 4, 2) := by decide +kernel
theorem dX6_isFrom_9 : decode cX6_isFrom 9 = .ok (.iconst (-1), 1) := by decide +kernel
theorem dX6_isFrom_10 : decode cX6_isFrom 10 = .ok (.if_icmp .eq 19, 3) := by decide +kernel
theorem dX6_isFrom_13 : decode cX6_isFrom 13 = .ok (.iload 4, 2) := by decide +kernel
theorem dX6_isFrom_15 : decode cX6_isFrom 15 = .ok (.iload_n 2, 1) := by decide +kernel
theorem dX6_isFrom_16 : decode cX6_isFrom 16 = .ok (.if_icmp .lt 13, 3) := by decide +kernel
theorem dX6_isFrom_19 : decode cX6_isFrom 19 = .ok (.iload 4, 2) := by decide +kernel
theorem dX6_isFrom_21 : decode cX6_isFrom 21 = .ok (.iload_n 3, 1) := by decide +kernel
theorem dX6_isFrom_22 : decode cX6_isFrom 22 = .ok (.if_icmp .gt 7, 3) := by decide +kernel
theorem dX6_isFrom_25 : decode cX6_isFrom 25 = .ok (.iconst 1, 1) := by decide +kernel
theorem dX6_isFrom_26 : decode cX6_isFrom 26 = .ok (.goto 4, 3) := by decide +kernel
theorem dX6_isFrom_29 : decode cX6_isFrom 29 = .ok (.iconst 0, 1) := by decide +kernel
theorem dX6_isFrom_30 : decode cX6_isFrom 30 = .ok (.ireturn, 1) := by decide +kernel
theorem dX6_howManyFrom_0 : decode cX6_howManyFrom 0 = .ok (.iconst 0, 1) := by decide +kernel
theorem dX6_howManyFrom_1 : decode cX6_howManyFrom 1 = .ok (.istore_n 3, 1) := by decide +kernel
theorem dX6_howManyFrom_2 : decode cX6_howManyFrom 2 = .ok (.iconst 0, 1) := by decide +kernel
theorem dX6_howManyFrom_3 : decode cX6_howManyFrom 3 = .ok (.istore 4, 2) := by decide +kernel
theorem dX6_howManyFrom_5 : decode cX6_howManyFrom 5 = .ok (.iload 4, 2) := by decide +kernel
theorem dX6_howManyFrom_7 : decode cX6_howManyFrom 7 = .ok (.bipush 60, 2) := by decide +kernel
theorem dX6_howManyFrom_9 : decode cX6_howManyFrom 9 = .ok (.if_icmp .ge 23, 3) := by decide +kernel
theorem dX6_howManyFrom_12 : decode cX6_howManyFrom 12 = .ok (.aload_n 0, 1) := by decide +kernel
theorem dX6_howManyFrom_13 : decode cX6_howManyFrom 13 = .ok (.iload 4, 2) := by decide +kernel
theorem dX6_howManyFrom_15 : decode cX6_howManyFrom 15 = .ok (.iload_n 1, 1) := by decide +kernel
theorem dX6_howManyFrom_16 : decode cX6_howManyFrom 16 = .ok (.iload_n 2, 1) := by decide +kernel
theorem dX6_howManyFrom_17 : decode cX6_howManyFrom 17 = .ok (.invokestatic 15, 3) := by decide +kernel
theorem dX6_howManyFrom_20 : decode cX6_howManyFrom 20 = .ok (.ifCond .eq 6, 3) := by decide +kernel
theorem dX6_howManyFrom_23 : decode cX6_howManyFrom 23 = .ok (.iinc 3 1, 3) := by decide +kernel
theorem dX6_howManyFrom_26 : decode cX6_howManyFrom 26 = .ok (.iinc 4 1, 3) := by decide +kernel
theorem dX6_howManyFrom_29 : decode cX6_howManyFrom 29 = .ok (.goto (-24), 3) := by decide +kernel
theorem dX6_howManyFrom_32 : decode cX6_howManyFrom 32 = .ok (.iload_n 3, 1) := by decide +kernel
theorem dX6_howManyFrom_33 : decode cX6_howManyFrom 33 = .ok (.ireturn, 1) := by decide +kernel
theorem dX6_worthFrom_0 : decode cX6_worthFrom 0 = .ok (.iconst 0, 1) := by decide +kernel
theorem dX6_worthFrom_1 : decode cX6_worthFrom 1 = .ok (.istore_n 3, 1) := by decide +kernel
theorem dX6_worthFrom_2 : decode cX6_worthFrom 2 = .ok (.iconst 0, 1) := by decide +kernel
theorem dX6_worthFrom_3 : decode cX6_worthFrom 3 = .ok (.istore 4, 2) := by decide +kernel
theorem dX6_worthFrom_5 : decode cX6_worthFrom 5 = .ok (.iload 4, 2) := by decide +kernel
theorem dX6_worthFrom_7 : decode cX6_worthFrom 7 = .ok (.bipush 60, 2) := by decide +kernel
theorem dX6_worthFrom_9 : decode cX6_worthFrom 9 = .ok (.if_icmp .ge 29, 3) := by decide +kernel
theorem dX6_worthFrom_12 : decode cX6_worthFrom 12 = .ok (.aload_n 0, 1) := by decide +kernel
theorem dX6_worthFrom_13 : decode cX6_worthFrom 13 = .ok (.iload 4, 2) := by decide +kernel
theorem dX6_worthFrom_15 : decode cX6_worthFrom 15 = .ok (.iload_n 1, 1) := by decide +kernel
theorem dX6_worthFrom_16 : decode cX6_worthFrom 16 = .ok (.iload_n 2, 1) := by decide +kernel
theorem dX6_worthFrom_17 : decode cX6_worthFrom 17 = .ok (.invokestatic 15, 3) := by decide +kernel
theorem dX6_worthFrom_20 : decode cX6_worthFrom 20 = .ok (.ifCond .eq 12, 3) := by decide +kernel
theorem dX6_worthFrom_23 : decode cX6_worthFrom 23 = .ok (.iload_n 3, 1) := by decide +kernel
theorem dX6_worthFrom_24 : decode cX6_worthFrom 24 = .ok (.aload_n 0, 1) := by decide +kernel
theorem dX6_worthFrom_25 : decode cX6_worthFrom 25 = .ok (.iload 4, 2) := by decide +kernel
theorem dX6_worthFrom_27 : decode cX6_worthFrom 27 = .ok (.invokevirtual 21, 3) := by decide +kernel
theorem dX6_worthFrom_30 : decode cX6_worthFrom 30 = .ok (.iadd, 1) := by decide +kernel
theorem dX6_worthFrom_31 : decode cX6_worthFrom 31 = .ok (.istore_n 3, 1) := by decide +kernel
theorem dX6_worthFrom_32 : decode cX6_worthFrom 32 = .ok (.iinc 4 1, 3) := by decide +kernel
theorem dX6_worthFrom_35 : decode cX6_worthFrom 35 = .ok (.goto (-30), 3) := by decide +kernel
theorem dX6_worthFrom_38 : decode cX6_worthFrom 38 = .ok (.iload_n 3, 1) := by decide +kernel
theorem dX6_worthFrom_39 : decode cX6_worthFrom 39 = .ok (.ireturn, 1) := by decide +kernel
theorem dX6_mostWorthFrom_0 : decode cX6_mostWorthFrom 0 = .ok (.iconst (-1), 1) := by decide +kernel
theorem dX6_mostWorthFrom_1 : decode cX6_mostWorthFrom 1 = .ok (.istore_n 3, 1) := by decide +kernel
theorem dX6_mostWorthFrom_2 : decode cX6_mostWorthFrom 2 = .ok (.iconst 0, 1) := by decide +kernel
theorem dX6_mostWorthFrom_3 : decode cX6_mostWorthFrom 3 = .ok (.istore 4, 2) := by decide +kernel
theorem dX6_mostWorthFrom_5 : decode cX6_mostWorthFrom 5 = .ok (.iload 4, 2) := by decide +kernel
theorem dX6_mostWorthFrom_7 : decode cX6_mostWorthFrom 7 = .ok (.bipush 60, 2) := by decide +kernel
theorem dX6_mostWorthFrom_9 : decode cX6_mostWorthFrom 9 = .ok (.if_icmp .ge 38, 3) := by decide +kernel
theorem dX6_mostWorthFrom_12 : decode cX6_mostWorthFrom 12 = .ok (.aload_n 0, 1) := by decide +kernel
theorem dX6_mostWorthFrom_13 : decode cX6_mostWorthFrom 13 = .ok (.iload 4, 2) := by decide +kernel
theorem dX6_mostWorthFrom_15 : decode cX6_mostWorthFrom 15 = .ok (.iload_n 1, 1) := by decide +kernel
theorem dX6_mostWorthFrom_16 : decode cX6_mostWorthFrom 16 = .ok (.iload_n 2, 1) := by decide +kernel
theorem dX6_mostWorthFrom_17 : decode cX6_mostWorthFrom 17 = .ok (.invokestatic 15, 3) := by decide +kernel
theorem dX6_mostWorthFrom_20 : decode cX6_mostWorthFrom 20 = .ok (.ifCond .eq 21, 3) := by decide +kernel
theorem dX6_mostWorthFrom_23 : decode cX6_mostWorthFrom 23 = .ok (.iload_n 3, 1) := by decide +kernel
theorem dX6_mostWorthFrom_24 : decode cX6_mostWorthFrom 24 = .ok (.iconst (-1), 1) := by decide +kernel
theorem dX6_mostWorthFrom_25 : decode cX6_mostWorthFrom 25 = .ok (.if_icmp .eq 13, 3) := by decide +kernel
theorem dX6_mostWorthFrom_28 : decode cX6_mostWorthFrom 28 = .ok (.aload_n 0, 1) := by decide +kernel
theorem dX6_mostWorthFrom_29 : decode cX6_mostWorthFrom 29 = .ok (.iload 4, 2) := by decide +kernel
theorem dX6_mostWorthFrom_31 : decode cX6_mostWorthFrom 31 = .ok (.iload_n 3, 1) := by decide +kernel
theorem dX6_mostWorthFrom_32 : decode cX6_mostWorthFrom 32 = .ok (.invokestatic 24, 3) := by decide +kernel
theorem dX6_mostWorthFrom_35 : decode cX6_mostWorthFrom 35 = .ok (.ifCond .eq 6, 3) := by decide +kernel
theorem dX6_mostWorthFrom_38 : decode cX6_mostWorthFrom 38 = .ok (.iload 4, 2) := by decide +kernel
theorem dX6_mostWorthFrom_40 : decode cX6_mostWorthFrom 40 = .ok (.istore_n 3, 1) := by decide +kernel
theorem dX6_mostWorthFrom_41 : decode cX6_mostWorthFrom 41 = .ok (.iinc 4 1, 3) := by decide +kernel
theorem dX6_mostWorthFrom_44 : decode cX6_mostWorthFrom 44 = .ok (.goto (-39), 3) := by decide +kernel
theorem dX6_mostWorthFrom_47 : decode cX6_mostWorthFrom 47 = .ok (.aload_n 0, 1) := by decide +kernel
theorem dX6_mostWorthFrom_48 : decode cX6_mostWorthFrom 48 = .ok (.iload_n 3, 1) := by decide +kernel
theorem dX6_mostWorthFrom_49 : decode cX6_mostWorthFrom 49 = .ok (.invokevirtual 9, 3) := by decide +kernel
theorem dX6_mostWorthFrom_52 : decode cX6_mostWorthFrom 52 = .ok (.ireturn, 1) := by decide +kernel
theorem dX6_isWorthier_0 : decode cX6_isWorthier 0 = .ok (.aload_n 0, 1) := by decide +kernel
theorem dX6_isWorthier_1 : decode cX6_isWorthier 1 = .ok (.iload_n 1, 1) := by decide +kernel
theorem dX6_isWorthier_2 : decode cX6_isWorthier 2 = .ok (.invokevirtual 21, 3) := by decide +kernel
theorem dX6_isWorthier_5 : decode cX6_isWorthier 5 = .ok (.aload_n 0, 1) := by decide +kernel
theorem dX6_isWorthier_6 : decode cX6_isWorthier 6 = .ok (.iload_n 2, 1) := by decide +kernel
theorem dX6_isWorthier_7 : decode cX6_isWorthier 7 = .ok (.invokevirtual 21, 3) := by decide +kernel
theorem dX6_isWorthier_10 : decode cX6_isWorthier 10 = .ok (.if_icmp .eq 22, 3) := by decide +kernel
theorem dX6_isWorthier_13 : decode cX6_isWorthier 13 = .ok (.aload_n 0, 1) := by decide +kernel
theorem dX6_isWorthier_14 : decode cX6_isWorthier 14 = .ok (.iload_n 1, 1) := by decide +kernel
theorem dX6_isWorthier_15 : decode cX6_isWorthier 15 = .ok (.invokevirtual 21, 3) := by decide +kernel
theorem dX6_isWorthier_18 : decode cX6_isWorthier 18 = .ok (.aload_n 0, 1) := by decide +kernel
theorem dX6_isWorthier_19 : decode cX6_isWorthier 19 = .ok (.iload_n 2, 1) := by decide +kernel
theorem dX6_isWorthier_20 : decode cX6_isWorthier 20 = .ok (.invokevirtual 21, 3) := by decide +kernel
theorem dX6_isWorthier_23 : decode cX6_isWorthier 23 = .ok (.if_icmp .le 7, 3) := by decide +kernel
theorem dX6_isWorthier_26 : decode cX6_isWorthier 26 = .ok (.iconst 1, 1) := by decide +kernel
theorem dX6_isWorthier_27 : decode cX6_isWorthier 27 = .ok (.goto 4, 3) := by decide +kernel
theorem dX6_isWorthier_30 : decode cX6_isWorthier 30 = .ok (.iconst 0, 1) := by decide +kernel
theorem dX6_isWorthier_31 : decode cX6_isWorthier 31 = .ok (.ireturn, 1) := by decide +kernel
theorem dX6_isWorthier_32 : decode cX6_isWorthier 32 = .ok (.aload_n 0, 1) := by decide +kernel
theorem dX6_isWorthier_33 : decode cX6_isWorthier 33 = .ok (.iload_n 1, 1) := by decide +kernel
theorem dX6_isWorthier_34 : decode cX6_isWorthier 34 = .ok (.invokevirtual 9, 3) := by decide +kernel
theorem dX6_isWorthier_37 : decode cX6_isWorthier 37 = .ok (.aload_n 0, 1) := by decide +kernel
theorem dX6_isWorthier_38 : decode cX6_isWorthier 38 = .ok (.iload_n 2, 1) := by decide +kernel
theorem dX6_isWorthier_39 : decode cX6_isWorthier 39 = .ok (.invokevirtual 9, 3) := by decide +kernel
theorem dX6_isWorthier_42 : decode cX6_isWorthier 42 = .ok (.if_icmp .ge 7, 3) := by decide +kernel
theorem dX6_isWorthier_45 : decode cX6_isWorthier 45 = .ok (.iconst 1, 1) := by decide +kernel
theorem dX6_isWorthier_46 : decode cX6_isWorthier 46 = .ok (.goto 4, 3) := by decide +kernel
theorem dX6_isWorthier_49 : decode cX6_isWorthier 49 = .ok (.iconst 0, 1) := by decide +kernel
theorem dX6_isWorthier_50 : decode cX6_isWorthier 50 = .ok (.ireturn, 1) := by decide +kernel
theorem dX6_howManyLess_0 : decode cX6_howManyLess 0 = .ok (.iconst 0, 1) := by decide +kernel
theorem dX6_howManyLess_1 : decode cX6_howManyLess 1 = .ok (.istore_n 2, 1) := by decide +kernel
theorem dX6_howManyLess_2 : decode cX6_howManyLess 2 = .ok (.iconst 0, 1) := by decide +kernel
theorem dX6_howManyLess_3 : decode cX6_howManyLess 3 = .ok (.istore_n 3, 1) := by decide +kernel
theorem dX6_howManyLess_4 : decode cX6_howManyLess 4 = .ok (.iload_n 3, 1) := by decide +kernel
theorem dX6_howManyLess_5 : decode cX6_howManyLess 5 = .ok (.bipush 60, 2) := by decide +kernel
theorem dX6_howManyLess_7 : decode cX6_howManyLess 7 = .ok (.if_icmp .ge 30, 3) := by decide +kernel
theorem dX6_howManyLess_10 : decode cX6_howManyLess 10 = .ok (.aload_n 0, 1) := by decide +kernel
theorem dX6_howManyLess_11 : decode cX6_howManyLess 11 = .ok (.iload_n 3, 1) := by decide +kernel
theorem dX6_howManyLess_12 : decode cX6_howManyLess 12 = .ok (.invokevirtual 9, 3) := by decide +kernel
theorem dX6_howManyLess_15 : decode cX6_howManyLess 15 = .ok (.iconst (-1), 1) := by decide +kernel
theorem dX6_howManyLess_16 : decode cX6_howManyLess 16 = .ok (.if_icmp .eq 15, 3) := by decide +kernel
theorem dX6_howManyLess_19 : decode cX6_howManyLess 19 = .ok (.aload_n 0, 1) := by decide +kernel
theorem dX6_howManyLess_20 : decode cX6_howManyLess 20 = .ok (.iload_n 3, 1) := by decide +kernel
theorem dX6_howManyLess_21 : decode cX6_howManyLess 21 = .ok (.invokevirtual 9, 3) := by decide +kernel
theorem dX6_howManyLess_24 : decode cX6_howManyLess 24 = .ok (.iload_n 1, 1) := by decide +kernel
theorem dX6_howManyLess_25 : decode cX6_howManyLess 25 = .ok (.if_icmp .ge 6, 3) := by decide +kernel
theorem dX6_howManyLess_28 : decode cX6_howManyLess 28 = .ok (.iinc 2 1, 3) := by decide +kernel
theorem dX6_howManyLess_31 : decode cX6_howManyLess 31 = .ok (.iinc 3 1, 3) := by decide +kernel
theorem dX6_howManyLess_34 : decode cX6_howManyLess 34 = .ok (.goto (-30), 3) := by decide +kernel
theorem dX6_howManyLess_37 : decode cX6_howManyLess 37 = .ok (.iload_n 2, 1) := by decide +kernel
theorem dX6_howManyLess_38 : decode cX6_howManyLess 38 = .ok (.ireturn, 1) := by decide +kernel
theorem dX6_greatestLess_0 : decode cX6_greatestLess 0 = .ok (.iconst (-1), 1) := by decide +kernel
theorem dX6_greatestLess_1 : decode cX6_greatestLess 1 = .ok (.istore_n 2, 1) := by decide +kernel
theorem dX6_greatestLess_2 : decode cX6_greatestLess 2 = .ok (.aload_n 0, 1) := by decide +kernel
theorem dX6_greatestLess_3 : decode cX6_greatestLess 3 = .ok (.getfield 28, 3) := by decide +kernel
theorem dX6_greatestLess_6 : decode cX6_greatestLess 6 = .ok (.istore_n 3, 1) := by decide +kernel
theorem dX6_greatestLess_7 : decode cX6_greatestLess 7 = .ok (.iconst 0, 1) := by decide +kernel
theorem dX6_greatestLess_8 : decode cX6_greatestLess 8 = .ok (.istore 4, 2) := by decide +kernel
theorem dX6_greatestLess_10 : decode cX6_greatestLess 10 = .ok (.iload 4, 2) := by decide +kernel
theorem dX6_greatestLess_12 : decode cX6_greatestLess 12 = .ok (.bipush 60, 2) := by decide +kernel
theorem dX6_greatestLess_14 : decode cX6_greatestLess 14 = .ok (.if_icmp .ge 57, 3) := by decide +kernel
theorem dX6_greatestLess_17 : decode cX6_greatestLess 17 = .ok (.iload_n 3, 1) := by decide +kernel
theorem dX6_greatestLess_18 : decode cX6_greatestLess 18 = .ok (.iconst (-1), 1) := by decide +kernel
theorem dX6_greatestLess_19 : decode cX6_greatestLess 19 = .ok (.if_icmp .eq 52, 3) := by decide +kernel
theorem dX6_greatestLess_22 : decode cX6_greatestLess 22 = .ok (.aload_n 0, 1) := by decide +kernel
theorem dX6_greatestLess_23 : decode cX6_greatestLess 23 = .ok (.iload_n 3, 1) := by decide +kernel
theorem dX6_greatestLess_24 : decode cX6_greatestLess 24 = .ok (.invokevirtual 9, 3) := by decide +kernel
theorem dX6_greatestLess_27 : decode cX6_greatestLess 27 = .ok (.iload_n 1, 1) := by decide +kernel
theorem dX6_greatestLess_28 : decode cX6_greatestLess 28 = .ok (.if_icmp .ge 7, 3) := by decide +kernel
theorem dX6_greatestLess_31 : decode cX6_greatestLess 31 = .ok (.iconst 1, 1) := by decide +kernel
theorem dX6_greatestLess_32 : decode cX6_greatestLess 32 = .ok (.goto 4, 3) := by decide +kernel
theorem dX6_greatestLess_35 : decode cX6_greatestLess 35 = .ok (.iconst 0, 1) := by decide +kernel
theorem dX6_greatestLess_36 : decode cX6_greatestLess 36 = .ok (.istore 5, 2) := by decide +kernel
theorem dX6_greatestLess_38 : decode cX6_greatestLess 38 = .ok (.iload 5, 2) := by decide +kernel
theorem dX6_greatestLess_40 : decode cX6_greatestLess 40 = .ok (.ifCond .eq 9, 3) := by decide +kernel
theorem dX6_greatestLess_43 : decode cX6_greatestLess 43 = .ok (.aload_n 0, 1) := by decide +kernel
theorem dX6_greatestLess_44 : decode cX6_greatestLess 44 = .ok (.iload_n 3, 1) := by decide +kernel
theorem dX6_greatestLess_45 : decode cX6_greatestLess 45 = .ok (.invokevirtual 9, 3) := by decide +kernel
theorem dX6_greatestLess_48 : decode cX6_greatestLess 48 = .ok (.istore_n 2, 1) := by decide +kernel
theorem dX6_greatestLess_49 : decode cX6_greatestLess 49 = .ok (.aload_n 0, 1) := by decide +kernel
theorem dX6_greatestLess_50 : decode cX6_greatestLess 50 = .ok (.iload_n 3, 1) := by decide +kernel
theorem dX6_greatestLess_51 : decode cX6_greatestLess 51 = .ok (.iload 5, 2) := by decide +kernel
theorem dX6_greatestLess_53 : decode cX6_greatestLess 53 = .ok (.ifCond .ne 7, 3) := by decide +kernel
theorem dX6_greatestLess_56 : decode cX6_greatestLess 56 = .ok (.iconst 1, 1) := by decide +kernel
theorem dX6_greatestLess_57 : decode cX6_greatestLess 57 = .ok (.goto 4, 3) := by decide +kernel
theorem dX6_greatestLess_60 : decode cX6_greatestLess 60 = .ok (.iconst 0, 1) := by decide +kernel
theorem dX6_greatestLess_61 : decode cX6_greatestLess 61 = .ok (.invokevirtual 32, 3) := by decide +kernel
theorem dX6_greatestLess_64 : decode cX6_greatestLess 64 = .ok (.istore_n 3, 1) := by decide +kernel
theorem dX6_greatestLess_65 : decode cX6_greatestLess 65 = .ok (.iinc 4 1, 3) := by decide +kernel
theorem dX6_greatestLess_68 : decode cX6_greatestLess 68 = .ok (.goto (-58), 3) := by decide +kernel
theorem dX6_greatestLess_71 : decode cX6_greatestLess 71 = .ok (.iload_n 2, 1) := by decide +kernel
theorem dX6_greatestLess_72 : decode cX6_greatestLess 72 = .ok (.ireturn, 1) := by decide +kernel
theorem dX6_leastGreater_0 : decode cX6_leastGreater 0 = .ok (.iconst (-1), 1) := by decide +kernel
theorem dX6_leastGreater_1 : decode cX6_leastGreater 1 = .ok (.istore_n 2, 1) := by decide +kernel
theorem dX6_leastGreater_2 : decode cX6_leastGreater 2 = .ok (.aload_n 0, 1) := by decide +kernel
theorem dX6_leastGreater_3 : decode cX6_leastGreater 3 = .ok (.getfield 28, 3) := by decide +kernel
theorem dX6_leastGreater_6 : decode cX6_leastGreater 6 = .ok (.istore_n 3, 1) := by decide +kernel
theorem dX6_leastGreater_7 : decode cX6_leastGreater 7 = .ok (.iconst 0, 1) := by decide +kernel
theorem dX6_leastGreater_8 : decode cX6_leastGreater 8 = .ok (.istore 4, 2) := by decide +kernel
theorem dX6_leastGreater_10 : decode cX6_leastGreater 10 = .ok (.iload 4, 2) := by decide +kernel
theorem dX6_leastGreater_12 : decode cX6_leastGreater 12 = .ok (.bipush 60, 2) := by decide +kernel
theorem dX6_leastGreater_14 : decode cX6_leastGreater 14 = .ok (.if_icmp .ge 49, 3) := by decide +kernel
theorem dX6_leastGreater_17 : decode cX6_leastGreater 17 = .ok (.iload_n 3, 1) := by decide +kernel
theorem dX6_leastGreater_18 : decode cX6_leastGreater 18 = .ok (.iconst (-1), 1) := by decide +kernel
theorem dX6_leastGreater_19 : decode cX6_leastGreater 19 = .ok (.if_icmp .eq 44, 3) := by decide +kernel
theorem dX6_leastGreater_22 : decode cX6_leastGreater 22 = .ok (.aload_n 0, 1) := by decide +kernel
theorem dX6_leastGreater_23 : decode cX6_leastGreater 23 = .ok (.iload_n 3, 1) := by decide +kernel
theorem dX6_leastGreater_24 : decode cX6_leastGreater 24 = .ok (.invokevirtual 9, 3) := by decide +kernel
theorem dX6_leastGreater_27 : decode cX6_leastGreater 27 = .ok (.iload_n 1, 1) := by decide +kernel
theorem dX6_leastGreater_28 : decode cX6_leastGreater 28 = .ok (.if_icmp .le 7, 3) := by decide +kernel
theorem dX6_leastGreater_31 : decode cX6_leastGreater 31 = .ok (.iconst 1, 1) := by decide +kernel
theorem dX6_leastGreater_32 : decode cX6_leastGreater 32 = .ok (.goto 4, 3) := by decide +kernel
theorem dX6_leastGreater_35 : decode cX6_leastGreater 35 = .ok (.iconst 0, 1) := by decide +kernel
theorem dX6_leastGreater_36 : decode cX6_leastGreater 36 = .ok (.istore 5, 2) := by decide +kernel
theorem dX6_leastGreater_38 : decode cX6_leastGreater 38 = .ok (.iload 5, 2) := by decide +kernel
theorem dX6_leastGreater_40 : decode cX6_leastGreater 40 = .ok (.ifCond .eq 9, 3) := by decide +kernel
theorem dX6_leastGreater_43 : decode cX6_leastGreater 43 = .ok (.aload_n 0, 1) := by decide +kernel
theorem dX6_leastGreater_44 : decode cX6_leastGreater 44 = .ok (.iload_n 3, 1) := by decide +kernel
theorem dX6_leastGreater_45 : decode cX6_leastGreater 45 = .ok (.invokevirtual 9, 3) := by decide +kernel
theorem dX6_leastGreater_48 : decode cX6_leastGreater 48 = .ok (.istore_n 2, 1) := by decide +kernel
theorem dX6_leastGreater_49 : decode cX6_leastGreater 49 = .ok (.aload_n 0, 1) := by decide +kernel
theorem dX6_leastGreater_50 : decode cX6_leastGreater 50 = .ok (.iload_n 3, 1) := by decide +kernel
theorem dX6_leastGreater_51 : decode cX6_leastGreater 51 = .ok (.iload 5, 2) := by decide +kernel
theorem dX6_leastGreater_53 : decode cX6_leastGreater 53 = .ok (.invokevirtual 32, 3) := by decide +kernel
theorem dX6_leastGreater_56 : decode cX6_leastGreater 56 = .ok (.istore_n 3, 1) := by decide +kernel
theorem dX6_leastGreater_57 : decode cX6_leastGreater 57 = .ok (.iinc 4 1, 3) := by decide +kernel
theorem dX6_leastGreater_60 : decode cX6_leastGreater 60 = .ok (.goto (-50), 3) := by decide +kernel
theorem dX6_leastGreater_63 : decode cX6_leastGreater 63 = .ok (.iload_n 2, 1) := by decide +kernel
theorem dX6_leastGreater_64 : decode cX6_leastGreater 64 = .ok (.ireturn, 1) := by decide +kernel
theorem dX6_howManyBelow_0 : decode cX6_howManyBelow 0 = .ok (.aload_n 0, 1) := by decide +kernel
theorem dX6_howManyBelow_1 : decode cX6_howManyBelow 1 = .ok (.aload_n 0, 1) := by decide +kernel
theorem dX6_howManyBelow_2 : decode cX6_howManyBelow 2 = .ok (.iload_n 1, 1) := by decide +kernel
theorem dX6_howManyBelow_3 : decode cX6_howManyBelow 3 = .ok (.invokevirtual 36, 3) := by decide +kernel
theorem dX6_howManyBelow_6 : decode cX6_howManyBelow 6 = .ok (.invokevirtual 9, 3) := by decide +kernel
theorem dX6_howManyBelow_9 : decode cX6_howManyBelow 9 = .ok (.istore_n 2, 1) := by decide +kernel
theorem dX6_howManyBelow_10 : decode cX6_howManyBelow 10 = .ok (.aload_n 0, 1) := by decide +kernel
theorem dX6_howManyBelow_11 : decode cX6_howManyBelow 11 = .ok (.aload_n 0, 1) := by decide +kernel
theorem dX6_howManyBelow_12 : decode cX6_howManyBelow 12 = .ok (.iload_n 1, 1) := by decide +kernel
theorem dX6_howManyBelow_13 : decode cX6_howManyBelow 13 = .ok (.invokevirtual 39, 3) := by decide +kernel
theorem dX6_howManyBelow_16 : decode cX6_howManyBelow 16 = .ok (.invokevirtual 9, 3) := by decide +kernel
theorem dX6_howManyBelow_19 : decode cX6_howManyBelow 19 = .ok (.istore_n 3, 1) := by decide +kernel
theorem dX6_howManyBelow_20 : decode cX6_howManyBelow 20 = .ok (.aload_n 0, 1) := by decide +kernel
theorem dX6_howManyBelow_21 : decode cX6_howManyBelow 21 = .ok (.iload_n 2, 1) := by decide +kernel
theorem dX6_howManyBelow_22 : decode cX6_howManyBelow 22 = .ok (.iload_n 3, 1) := by decide +kernel
theorem dX6_howManyBelow_23 : decode cX6_howManyBelow 23 = .ok (.invokestatic 42, 3) := by decide +kernel
theorem dX6_howManyBelow_26 : decode cX6_howManyBelow 26 = .ok (.ireturn, 1) := by decide +kernel
theorem dX6_depth_0 : decode cX6_depth 0 = .ok (.iconst 0, 1) := by decide +kernel
theorem dX6_depth_1 : decode cX6_depth 1 = .ok (.istore_n 1, 1) := by decide +kernel
theorem dX6_depth_2 : decode cX6_depth 2 = .ok (.iconst 0, 1) := by decide +kernel
theorem dX6_depth_3 : decode cX6_depth 3 = .ok (.istore_n 2, 1) := by decide +kernel
theorem dX6_depth_4 : decode cX6_depth 4 = .ok (.iload_n 2, 1) := by decide +kernel
theorem dX6_depth_5 : decode cX6_depth 5 = .ok (.bipush 60, 2) := by decide +kernel
theorem dX6_depth_7 : decode cX6_depth 7 = .ok (.if_icmp .ge 30, 3) := by decide +kernel
theorem dX6_depth_10 : decode cX6_depth 10 = .ok (.aload_n 0, 1) := by decide +kernel
theorem dX6_depth_11 : decode cX6_depth 11 = .ok (.iload_n 2, 1) := by decide +kernel
theorem dX6_depth_12 : decode cX6_depth 12 = .ok (.invokevirtual 9, 3) := by decide +kernel
theorem dX6_depth_15 : decode cX6_depth 15 = .ok (.iconst (-1), 1) := by decide +kernel
theorem dX6_depth_16 : decode cX6_depth 16 = .ok (.if_icmp .eq 15, 3) := by decide +kernel
theorem dX6_depth_19 : decode cX6_depth 19 = .ok (.iload_n 1, 1) := by decide +kernel
theorem dX6_depth_20 : decode cX6_depth 20 = .ok (.aload_n 0, 1) := by decide +kernel
theorem dX6_depth_21 : decode cX6_depth 21 = .ok (.iload_n 2, 1) := by decide +kernel
theorem dX6_depth_22 : decode cX6_depth 22 = .ok (.invokevirtual 46, 3) := by decide +kernel
theorem dX6_depth_25 : decode cX6_depth 25 = .ok (.iconst 1, 1) := by decide +kernel
theorem dX6_depth_26 : decode cX6_depth 26 = .ok (.iadd, 1) := by decide +kernel
theorem dX6_depth_27 : decode cX6_depth 27 = .ok (.invokestatic 49, 3) := by decide +kernel
theorem dX6_depth_30 : decode cX6_depth 30 = .ok (.istore_n 1, 1) := by decide +kernel
theorem dX6_depth_31 : decode cX6_depth 31 = .ok (.iinc 2 1, 3) := by decide +kernel
theorem dX6_depth_34 : decode cX6_depth 34 = .ok (.goto (-30), 3) := by decide +kernel
theorem dX6_depth_37 : decode cX6_depth 37 = .ok (.iload_n 1, 1) := by decide +kernel
theorem dX6_depth_38 : decode cX6_depth 38 = .ok (.ireturn, 1) := by decide +kernel
theorem dX6_ranksTogether_0 : decode cX6_ranksTogether 0 = .ok (.iconst 0, 1) := by decide +kernel
theorem dX6_ranksTogether_1 : decode cX6_ranksTogether 1 = .ok (.istore_n 1, 1) := by decide +kernel
theorem dX6_ranksTogether_2 : decode cX6_ranksTogether 2 = .ok (.iconst 0, 1) := by decide +kernel
theorem dX6_ranksTogether_3 : decode cX6_ranksTogether 3 = .ok (.istore_n 2, 1) := by decide +kernel
theorem dX6_ranksTogether_4 : decode cX6_ranksTogether 4 = .ok (.iload_n 2, 1) := by decide +kernel
theorem dX6_ranksTogether_5 : decode cX6_ranksTogether 5 = .ok (.bipush 60, 2) := by decide +kernel
theorem dX6_ranksTogether_7 : decode cX6_ranksTogether 7 = .ok (.if_icmp .ge 26, 3) := by decide +kernel
theorem dX6_ranksTogether_10 : decode cX6_ranksTogether 10 = .ok (.aload_n 0, 1) := by decide +kernel
theorem dX6_ranksTogether_11 : decode cX6_ranksTogether 11 = .ok (.iload_n 2, 1) := by decide +kernel
theorem dX6_ranksTogether_12 : decode cX6_ranksTogether 12 = .ok (.invokevirtual 9, 3) := by decide +kernel
theorem dX6_ranksTogether_15 : decode cX6_ranksTogether 15 = .ok (.iconst (-1), 1) := by decide +kernel
theorem dX6_ranksTogether_16 : decode cX6_ranksTogether 16 = .ok (.if_icmp .eq 11, 3) := by decide +kernel
theorem dX6_ranksTogether_19 : decode cX6_ranksTogether 19 = .ok (.iload_n 1, 1) := by decide +kernel
theorem dX6_ranksTogether_20 : decode cX6_ranksTogether 20 = .ok (.aload_n 0, 1) := by decide +kernel
theorem dX6_ranksTogether_21 : decode cX6_ranksTogether 21 = .ok (.iload_n 2, 1) := by decide +kernel
theorem dX6_ranksTogether_22 : decode cX6_ranksTogether 22 = .ok (.invokevirtual 55, 3) := by decide +kernel
theorem dX6_ranksTogether_25 : decode cX6_ranksTogether 25 = .ok (.iadd, 1) := by decide +kernel
theorem dX6_ranksTogether_26 : decode cX6_ranksTogether 26 = .ok (.istore_n 1, 1) := by decide +kernel
theorem dX6_ranksTogether_27 : decode cX6_ranksTogether 27 = .ok (.iinc 2 1, 3) := by decide +kernel
theorem dX6_ranksTogether_30 : decode cX6_ranksTogether 30 = .ok (.goto (-26), 3) := by decide +kernel
theorem dX6_ranksTogether_33 : decode cX6_ranksTogether 33 = .ok (.iload_n 1, 1) := by decide +kernel
theorem dX6_ranksTogether_34 : decode cX6_ranksTogether 34 = .ok (.ireturn, 1) := by decide +kernel
theorem dX6_longSteps_0 : decode cX6_longSteps 0 = .ok (.iconst 0, 1) := by decide +kernel
theorem dX6_longSteps_1 : decode cX6_longSteps 1 = .ok (.istore_n 1, 1) := by decide +kernel
theorem dX6_longSteps_2 : decode cX6_longSteps 2 = .ok (.iconst 0, 1) := by decide +kernel
theorem dX6_longSteps_3 : decode cX6_longSteps 3 = .ok (.istore_n 2, 1) := by decide +kernel
theorem dX6_longSteps_4 : decode cX6_longSteps 4 = .ok (.iload_n 2, 1) := by decide +kernel
theorem dX6_longSteps_5 : decode cX6_longSteps 5 = .ok (.bipush 60, 2) := by decide +kernel
theorem dX6_longSteps_7 : decode cX6_longSteps 7 = .ok (.if_icmp .ge 43, 3) := by decide +kernel
theorem dX6_longSteps_10 : decode cX6_longSteps 10 = .ok (.aload_n 0, 1) := by decide +kernel
theorem dX6_longSteps_11 : decode cX6_longSteps 11 = .ok (.iload_n 2, 1) := by decide +kernel
theorem dX6_longSteps_12 : decode cX6_longSteps 12 = .ok (.invokevirtual 9, 3) := by decide +kernel
theorem dX6_longSteps_15 : decode cX6_longSteps 15 = .ok (.iconst (-1), 1) := by decide +kernel
theorem dX6_longSteps_16 : decode cX6_longSteps 16 = .ok (.if_icmp .eq 28, 3) := by decide +kernel
theorem dX6_longSteps_19 : decode cX6_longSteps 19 = .ok (.iload_n 2, 1) := by decide +kernel
theorem dX6_longSteps_20 : decode cX6_longSteps 20 = .ok (.aload_n 0, 1) := by decide +kernel
theorem dX6_longSteps_21 : decode cX6_longSteps 21 = .ok (.getfield 28, 3) := by decide +kernel
theorem dX6_longSteps_24 : decode cX6_longSteps 24 = .ok (.if_icmp .eq 20, 3) := by decide +kernel
theorem dX6_longSteps_27 : decode cX6_longSteps 27 = .ok (.aload_n 0, 1) := by decide +kernel
theorem dX6_longSteps_28 : decode cX6_longSteps 28 = .ok (.aload_n 0, 1) := by decide +kernel
theorem dX6_longSteps_29 : decode cX6_longSteps 29 = .ok (.iload_n 2, 1) := by decide +kernel
theorem dX6_longSteps_30 : decode cX6_longSteps 30 = .ok (.invokevirtual 58, 3) := by decide +kernel
theorem dX6_longSteps_33 : decode cX6_longSteps 33 = .ok (.iload_n 2, 1) := by decide +kernel
theorem dX6_longSteps_34 : decode cX6_longSteps 34 = .ok (.invokevirtual 61, 3) := by decide +kernel
theorem dX6_longSteps_37 : decode cX6_longSteps 37 = .ok (.iconst 2, 1) := by decide +kernel
theorem dX6_longSteps_38 : decode cX6_longSteps 38 = .ok (.if_icmp .ne 6, 3) := by decide +kernel
theorem dX6_longSteps_41 : decode cX6_longSteps 41 = .ok (.iinc 1 1, 3) := by decide +kernel
theorem dX6_longSteps_44 : decode cX6_longSteps 44 = .ok (.iinc 2 1, 3) := by decide +kernel
theorem dX6_longSteps_47 : decode cX6_longSteps 47 = .ok (.goto (-43), 3) := by decide +kernel
theorem dX6_longSteps_50 : decode cX6_longSteps 50 = .ok (.iload_n 1, 1) := by decide +kernel
theorem dX6_longSteps_51 : decode cX6_longSteps 51 = .ok (.ireturn, 1) := by decide +kernel
theorem dX6_firstWrong_0 : decode cX6_firstWrong 0 = .ok (.aload_n 0, 1) := by decide +kernel
theorem dX6_firstWrong_1 : decode cX6_firstWrong 1 = .ok (.getfield 28, 3) := by decide +kernel
theorem dX6_firstWrong_4 : decode cX6_firstWrong 4 = .ok (.istore_n 1, 1) := by decide +kernel
theorem dX6_firstWrong_5 : decode cX6_firstWrong 5 = .ok (.iconst 0, 1) := by decide +kernel
theorem dX6_firstWrong_6 : decode cX6_firstWrong 6 = .ok (.istore_n 2, 1) := by decide +kernel
theorem dX6_firstWrong_7 : decode cX6_firstWrong 7 = .ok (.iload_n 2, 1) := by decide +kernel
theorem dX6_firstWrong_8 : decode cX6_firstWrong 8 = .ok (.aload_n 0, 1) := by decide +kernel
theorem dX6_firstWrong_9 : decode cX6_firstWrong 9 = .ok (.getfield 64, 3) := by decide +kernel
theorem dX6_firstWrong_12 : decode cX6_firstWrong 12 = .ok (.if_icmp .ge 25, 3) := by decide +kernel
theorem dX6_firstWrong_15 : decode cX6_firstWrong 15 = .ok (.aload_n 0, 1) := by decide +kernel
theorem dX6_firstWrong_16 : decode cX6_firstWrong 16 = .ok (.iload_n 1, 1) := by decide +kernel
theorem dX6_firstWrong_17 : decode cX6_firstWrong 17 = .ok (.invokestatic 67, 3) := by decide +kernel
theorem dX6_firstWrong_20 : decode cX6_firstWrong 20 = .ok (.ifCond .ne 5, 3) := by decide +kernel
theorem dX6_firstWrong_23 : decode cX6_firstWrong 23 = .ok (.iload_n 2, 1) := by decide +kernel
theorem dX6_firstWrong_24 : decode cX6_firstWrong 24 = .ok (.ireturn, 1) := by decide +kernel
theorem dX6_firstWrong_25 : decode cX6_firstWrong 25 = .ok (.aload_n 0, 1) := by decide +kernel
theorem dX6_firstWrong_26 : decode cX6_firstWrong 26 = .ok (.iload_n 1, 1) := by decide +kernel
theorem dX6_firstWrong_27 : decode cX6_firstWrong 27 = .ok (.invokevirtual 71, 3) := by decide +kernel
theorem dX6_firstWrong_30 : decode cX6_firstWrong 30 = .ok (.istore_n 1, 1) := by decide +kernel
theorem dX6_firstWrong_31 : decode cX6_firstWrong 31 = .ok (.iinc 2 1, 3) := by decide +kernel
theorem dX6_firstWrong_34 : decode cX6_firstWrong 34 = .ok (.goto (-27), 3) := by decide +kernel
theorem dX6_firstWrong_37 : decode cX6_firstWrong 37 = .ok (.iconst (-1), 1) := by decide +kernel
theorem dX6_firstWrong_38 : decode cX6_firstWrong 38 = .ok (.ireturn, 1) := by decide +kernel
theorem dX6_isRight_0 : decode cX6_isRight 0 = .ok (.aload_n 0, 1) := by decide +kernel
theorem dX6_isRight_1 : decode cX6_isRight 1 = .ok (.iload_n 1, 1) := by decide +kernel
theorem dX6_isRight_2 : decode cX6_isRight 2 = .ok (.invokevirtual 74, 3) := by decide +kernel
theorem dX6_isRight_5 : decode cX6_isRight 5 = .ok (.ifCond .eq 17, 3) := by decide +kernel
theorem dX6_isRight_8 : decode cX6_isRight 8 = .ok (.aload_n 0, 1) := by decide +kernel
theorem dX6_isRight_9 : decode cX6_isRight 9 = .ok (.iload_n 1, 1) := by decide +kernel
theorem dX6_isRight_10 : decode cX6_isRight 10 = .ok (.invokevirtual 55, 3) := by decide +kernel
theorem dX6_isRight_13 : decode cX6_isRight 13 = .ok (.ifCond .ne 7, 3) := by decide +kernel
theorem dX6_isRight_16 : decode cX6_isRight 16 = .ok (.iconst 1, 1) := by decide +kernel
theorem dX6_isRight_17 : decode cX6_isRight 17 = .ok (.goto 4, 3) := by decide +kernel
theorem dX6_isRight_20 : decode cX6_isRight 20 = .ok (.iconst 0, 1) := by decide +kernel
theorem dX6_isRight_21 : decode cX6_isRight 21 = .ok (.ireturn, 1) := by decide +kernel
theorem dX6_isRight_22 : decode cX6_isRight 22 = .ok (.aload_n 0, 1) := by decide +kernel
theorem dX6_isRight_23 : decode cX6_isRight 23 = .ok (.iload_n 1, 1) := by decide +kernel
theorem dX6_isRight_24 : decode cX6_isRight 24 = .ok (.aload_n 0, 1) := by decide +kernel
theorem dX6_isRight_25 : decode cX6_isRight 25 = .ok (.iload_n 1, 1) := by decide +kernel
theorem dX6_isRight_26 : decode cX6_isRight 26 = .ok (.invokevirtual 78, 3) := by decide +kernel
theorem dX6_isRight_29 : decode cX6_isRight 29 = .ok (.invokevirtual 61, 3) := by decide +kernel
theorem dX6_isRight_32 : decode cX6_isRight 32 = .ok (.istore_n 2, 1) := by decide +kernel
theorem dX6_isRight_33 : decode cX6_isRight 33 = .ok (.aload_n 0, 1) := by decide +kernel
theorem dX6_isRight_34 : decode cX6_isRight 34 = .ok (.iload_n 1, 1) := by decide +kernel
theorem dX6_isRight_35 : decode cX6_isRight 35 = .ok (.aload_n 0, 1) := by decide +kernel
theorem dX6_isRight_36 : decode cX6_isRight 36 = .ok (.iload_n 1, 1) := by decide +kernel
theorem dX6_isRight_37 : decode cX6_isRight 37 = .ok (.invokevirtual 81, 3) := by decide +kernel
theorem dX6_isRight_40 : decode cX6_isRight 40 = .ok (.invokevirtual 61, 3) := by decide +kernel
theorem dX6_isRight_43 : decode cX6_isRight 43 = .ok (.istore_n 3, 1) := by decide +kernel
theorem dX6_isRight_44 : decode cX6_isRight 44 = .ok (.iload_n 2, 1) := by decide +kernel
theorem dX6_isRight_45 : decode cX6_isRight 45 = .ok (.iconst 1, 1) := by decide +kernel
theorem dX6_isRight_46 : decode cX6_isRight 46 = .ok (.iconst 2, 1) := by decide +kernel
theorem dX6_isRight_47 : decode cX6_isRight 47 = .ok (.invokestatic 84, 3) := by decide +kernel
theorem dX6_isRight_50 : decode cX6_isRight 50 = .ok (.ifCond .eq 16, 3) := by decide +kernel
theorem dX6_isRight_53 : decode cX6_isRight 53 = .ok (.iload_n 3, 1) := by decide +kernel
theorem dX6_isRight_54 : decode cX6_isRight 54 = .ok (.iconst 1, 1) := by decide +kernel
theorem dX6_isRight_55 : decode cX6_isRight 55 = .ok (.iconst 2, 1) := by decide +kernel
theorem dX6_isRight_56 : decode cX6_isRight 56 = .ok (.invokestatic 84, 3) := by decide +kernel
