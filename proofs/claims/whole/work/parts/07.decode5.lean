theorem dX8_costliestKey_63 : decode cX8_costliestKey 63 = .ok (.getfield 86, 3) := by decide +kernel
theorem dX8_costliestKey_66 : decode cX8_costliestKey 66 = .ok (.invokevirtual 250, 3) := by decide +kernel
theorem dX8_costliestKey_69 : decode cX8_costliestKey 69 = .ok (.iload_n 2, 1) := by decide +kernel
theorem dX8_costliestKey_70 : decode cX8_costliestKey 70 = .ok (.if_icmp .le 26, 3) := by decide +kernel
theorem dX8_costliestKey_73 : decode cX8_costliestKey 73 = .ok (.aload_n 0, 1) := by decide +kernel
theorem dX8_costliestKey_74 : decode cX8_costliestKey 74 = .ok (.getfield 16, 3) := by decide +kernel
theorem dX8_costliestKey_77 : decode cX8_costliestKey 77 = .ok (.getfield 86, 3) := by decide +kernel
theorem dX8_costliestKey_80 : decode cX8_costliestKey 80 = .ok (.invokevirtual 250, 3) := by decide +kernel
theorem dX8_costliestKey_83 : decode cX8_costliestKey 83 = .ok (.istore_n 2, 1) := by decide +kernel
theorem dX8_costliestKey_84 : decode cX8_costliestKey 84 = .ok (.aload_n 0, 1) := by decide +kernel
theorem dX8_costliestKey_85 : decode cX8_costliestKey 85 = .ok (.getfield 10, 3) := by decide +kernel
theorem dX8_costliestKey_88 : decode cX8_costliestKey 88 = .ok (.getfield 40, 3) := by decide +kernel
theorem dX8_costliestKey_91 : decode cX8_costliestKey 91 = .ok (.iload_n 3, 1) := by decide +kernel
theorem dX8_costliestKey_92 : decode cX8_costliestKey 92 = .ok (.invokevirtual 53, 3) := by decide +kernel
theorem dX8_costliestKey_95 : decode cX8_costliestKey 95 = .ok (.istore_n 1, 1) := by decide +kernel
theorem dX8_costliestKey_96 : decode cX8_costliestKey 96 = .ok (.aload_n 0, 1) := by decide +kernel
theorem dX8_costliestKey_97 : decode cX8_costliestKey 97 = .ok (.getfield 10, 3) := by decide +kernel
theorem dX8_costliestKey_100 : decode cX8_costliestKey 100 = .ok (.getfield 40, 3) := by decide +kernel
theorem dX8_costliestKey_103 : decode cX8_costliestKey 103 = .ok (.iload_n 3, 1) := by decide +kernel
theorem dX8_costliestKey_104 : decode cX8_costliestKey 104 = .ok (.invokevirtual 150, 3) := by decide +kernel
theorem dX8_costliestKey_107 : decode cX8_costliestKey 107 = .ok (.istore_n 3, 1) := by decide +kernel
theorem dX8_costliestKey_108 : decode cX8_costliestKey 108 = .ok (.iinc 4 1, 3) := by decide +kernel
theorem dX8_costliestKey_111 : decode cX8_costliestKey 111 = .ok (.goto (-83), 3) := by decide +kernel
theorem dX8_costliestKey_114 : decode cX8_costliestKey 114 = .ok (.iload_n 1, 1) := by decide +kernel
theorem dX8_costliestKey_115 : decode cX8_costliestKey 115 = .ok (.ireturn, 1) := by decide +kernel
theorem dX9_init_0 : decode cX9_init 0 = .ok (.aload_n 0, 1) := by decide +kernel
theorem dX9_init_1 : decode cX9_init 1 = .ok (.invokespecial 1, 3) := by decide +kernel
theorem dX9_init_4 : decode cX9_init 4 = .ok (.aload_n 0, 1) := by decide +kernel
theorem dX9_init_5 : decode cX9_init 5 = .ok (.sipush 368, 3) := by decide +kernel
theorem dX9_init_8 : decode cX9_init 8 = .ok (.newarray .int, 2) := by decide +kernel
theorem dX9_init_10 : decode cX9_init 10 = .ok (.putfield 7, 3) := by decide +kernel
theorem dX9_init_13 : decode cX9_init 13 = .ok (.aload_n 0, 1) := by decide +kernel
theorem dX9_init_14 : decode cX9_init 14 = .ok (.sipush 4416, 3) := by decide +kernel
theorem dX9_init_17 : decode cX9_init 17 = .ok (.newarray .int, 2) := by decide +kernel
theorem dX9_init_19 : decode cX9_init 19 = .ok (.putfield 13, 3) := by decide +kernel
theorem dX9_init_22 : decode cX9_init 22 = .ok (.aload_n 0, 1) := by decide +kernel
theorem dX9_init_23 : decode cX9_init 23 = .ok (.sipush 736, 3) := by decide +kernel
theorem dX9_init_26 : decode cX9_init 26 = .ok (.newarray .int, 2) := by decide +kernel
theorem dX9_init_28 : decode cX9_init 28 = .ok (.putfield 16, 3) := by decide +kernel
theorem dX9_init_31 : decode cX9_init 31 = .ok (.aload_n 0, 1) := by decide +kernel
theorem dX9_init_32 : decode cX9_init 32 = .ok (.iconst 2, 1) := by decide +kernel
theorem dX9_init_33 : decode cX9_init 33 = .ok (.newarray .int, 2) := by decide +kernel
theorem dX9_init_35 : decode cX9_init 35 = .ok (.putfield 19, 3) := by decide +kernel
theorem dX9_init_38 : decode cX9_init 38 = .ok (.aload_n 0, 1) := by decide +kernel
theorem dX9_init_39 : decode cX9_init 39 = .ok (.iconst 2, 1) := by decide +kernel
theorem dX9_init_40 : decode cX9_init 40 = .ok (.newarray .boolean, 2) := by decide +kernel
theorem dX9_init_42 : decode cX9_init 42 = .ok (.putfield 22, 3) := by decide +kernel
theorem dX9_init_45 : decode cX9_init 45 = .ok (.aload_n 0, 1) := by decide +kernel
theorem dX9_init_46 : decode cX9_init 46 = .ok (.bipush 60, 2) := by decide +kernel
theorem dX9_init_48 : decode cX9_init 48 = .ok (.newarray .int, 2) := by decide +kernel
theorem dX9_init_50 : decode cX9_init 50 = .ok (.putfield 26, 3) := by decide +kernel
theorem dX9_init_53 : decode cX9_init 53 = .ok (.aload_n 0, 1) := by decide +kernel
theorem dX9_init_54 : decode cX9_init 54 = .ok (.bipush 60, 2) := by decide +kernel
theorem dX9_init_56 : decode cX9_init 56 = .ok (.newarray .int, 2) := by decide +kernel
theorem dX9_init_58 : decode cX9_init 58 = .ok (.putfield 29, 3) := by decide +kernel
theorem dX9_init_61 : decode cX9_init 61 = .ok (.aload_n 0, 1) := by decide +kernel
theorem dX9_init_62 : decode cX9_init 62 = .ok (.bipush 60, 2) := by decide +kernel
theorem dX9_init_64 : decode cX9_init 64 = .ok (.newarray .int, 2) := by decide +kernel
theorem dX9_init_66 : decode cX9_init 66 = .ok (.putfield 32, 3) := by decide +kernel
theorem dX9_init_69 : decode cX9_init 69 = .ok (.aload_n 0, 1) := by decide +kernel
theorem dX9_init_70 : decode cX9_init 70 = .ok (.bipush 61, 2) := by decide +kernel
theorem dX9_init_72 : decode cX9_init 72 = .ok (.newarray .int, 2) := by decide +kernel
theorem dX9_init_74 : decode cX9_init 74 = .ok (.putfield 35, 3) := by decide +kernel
theorem dX9_init_77 : decode cX9_init 77 = .ok (.aload_n 0, 1) := by decide +kernel
theorem dX9_init_78 : decode cX9_init 78 = .ok (.sipush 368, 3) := by decide +kernel
theorem dX9_init_81 : decode cX9_init 81 = .ok (.newarray .int, 2) := by decide +kernel
theorem dX9_init_83 : decode cX9_init 83 = .ok (.putfield 38, 3) := by decide +kernel
theorem dX9_init_86 : decode cX9_init 86 = .ok (.aload_n 0, 1) := by decide +kernel
theorem dX9_init_87 : decode cX9_init 87 = .ok (.bipush 32, 2) := by decide +kernel
theorem dX9_init_89 : decode cX9_init 89 = .ok (.newarray .int, 2) := by decide +kernel
theorem dX9_init_91 : decode cX9_init 91 = .ok (.putfield 41, 3) := by decide +kernel
theorem dX9_init_94 : decode cX9_init 94 = .ok (.aload_n 0, 1) := by decide +kernel
theorem dX9_init_95 : decode cX9_init 95 = .ok (.sipush 640, 3) := by decide +kernel
theorem dX9_init_98 : decode cX9_init 98 = .ok (.newarray .int, 2) := by decide +kernel
theorem dX9_init_100 : decode cX9_init 100 = .ok (.putfield 44, 3) := by decide +kernel
theorem dX9_init_103 : decode cX9_init 103 = .ok (.aload_n 0, 1) := by decide +kernel
theorem dX9_init_104 : decode cX9_init 104 = .ok (.bipush 60, 2) := by decide +kernel
theorem dX9_init_106 : decode cX9_init 106 = .ok (.newarray .int, 2) := by decide +kernel
theorem dX9_init_108 : decode cX9_init 108 = .ok (.putfield 47, 3) := by decide +kernel
theorem dX9_init_111 : decode cX9_init 111 = .ok (.aload_n 0, 1) := by decide +kernel
theorem dX9_init_112 : decode cX9_init 112 = .ok (.bipush 60, 2) := by decide +kernel
theorem dX9_init_114 : decode cX9_init 114 = .ok (.newarray .int, 2) := by decide +kernel
theorem dX9_init_116 : decode cX9_init 116 = .ok (.putfield 50, 3) := by decide +kernel
theorem dX9_init_119 : decode cX9_init 119 = .ok (.aload_n 0, 1) := by decide +kernel
theorem dX9_init_120 : decode cX9_init 120 = .ok (.invokevirtual 53, 3) := by decide +kernel
theorem dX9_init_123 : decode cX9_init 123 = .ok (.return_, 1) := by decide +kernel
theorem dX9_in_0 : decode cX9_in 0 = .ok (.lload_n 0, 1) := by decide +kernel
theorem dX9_in_1 : decode cX9_in 1 = .ok (.lload_n 2, 1) := by decide +kernel
theorem dX9_in_2 : decode cX9_in 2 = .ok (.lcmp, 1) := by decide +kernel
theorem dX9_in_3 : decode cX9_in 3 = .ok (.ifCond .lt 14, 3) := by decide +kernel
theorem dX9_in_6 : decode cX9_in 6 = .ok (.lload_n 0, 1) := by decide +kernel
theorem dX9_in_7 : decode cX9_in 7 = .ok (.lload 4, 2) := by decide +kernel
theorem dX9_in_9 : decode cX9_in 9 = .ok (.lcmp, 1) := by decide +kernel
theorem dX9_in_10 : decode cX9_in 10 = .ok (.ifCond .gt 7, 3) := by decide +kernel
theorem dX9_in_13 : decode cX9_in 13 = .ok (.iconst 1, 1) := by decide +kernel
theorem dX9_in_14 : decode cX9_in 14 = .ok (.goto 4, 3) := by decide +kernel
theorem dX9_in_17 : decode cX9_in 17 = .ok (.iconst 0, 1) := by decide +kernel
theorem dX9_in_18 : decode cX9_in 18 = .ok (.ireturn, 1) := by decide +kernel
theorem dX9_of_0 : decode cX9_of 0 = .ok (.aload_n 0, 1) := by decide +kernel
theorem dX9_of_1 : decode cX9_of 1 = .ok (.getfield 7, 3) := by decide +kernel
theorem dX9_of_4 : decode cX9_of 4 = .ok (.bipush 6, 2) := by decide +kernel
theorem dX9_of_6 : decode cX9_of 6 = .ok (.iload_n 1, 1) := by decide +kernel
theorem dX9_of_7 : decode cX9_of 7 = .ok (.imul, 1) := by decide +kernel
theorem dX9_of_8 : decode cX9_of 8 = .ok (.iload_n 2, 1) := by decide +kernel
theorem dX9_of_9 : decode cX9_of 9 = .ok (.iadd, 1) := by decide +kernel
theorem dX9_of_10 : decode cX9_of 10 = .ok (.iaload, 1) := by decide +kernel
theorem dX9_of_11 : decode cX9_of 11 = .ok (.ireturn, 1) := by decide +kernel
theorem dX9_lays_0 : decode cX9_lays 0 = .ok (.aload_n 0, 1) := by decide +kernel
theorem dX9_lays_1 : decode cX9_lays 1 = .ok (.getfield 7, 3) := by decide +kernel
theorem dX9_lays_4 : decode cX9_lays 4 = .ok (.bipush 6, 2) := by decide +kernel
theorem dX9_lays_6 : decode cX9_lays 6 = .ok (.iload_n 1, 1) := by decide +kernel
theorem dX9_lays_7 : decode cX9_lays 7 = .ok (.imul, 1) := by decide +kernel
theorem dX9_lays_8 : decode cX9_lays 8 = .ok (.iload_n 2, 1) := by decide +kernel
theorem dX9_lays_9 : decode cX9_lays 9 = .ok (.iadd, 1) := by decide +kernel
theorem dX9_lays_10 : decode cX9_lays 10 = .ok (.iload_n 3, 1) := by decide +kernel
theorem dX9_lays_11 : decode cX9_lays 11 = .ok (.iastore, 1) := by decide +kernel
theorem dX9_lays_12 : decode cX9_lays 12 = .ok (.return_, 1) := by decide +kernel
theorem dX9_goesEmpty_0 : decode cX9_goesEmpty 0 = .ok (.iconst 0, 1) := by decide +kernel
theorem dX9_goesEmpty_1 : decode cX9_goesEmpty 1 = .ok (.istore_n 1, 1) := by decide +kernel
theorem dX9_goesEmpty_2 : decode cX9_goesEmpty 2 = .ok (.iload_n 1, 1) := by decide +kernel
theorem dX9_goesEmpty_3 : decode cX9_goesEmpty 3 = .ok (.bipush 60, 2) := by decide +kernel
theorem dX9_goesEmpty_5 : decode cX9_goesEmpty 5 = .ok (.if_icmp .ge 16, 3) := by decide +kernel
theorem dX9_goesEmpty_8 : decode cX9_goesEmpty 8 = .ok (.aload_n 0, 1) := by decide +kernel
theorem dX9_goesEmpty_9 : decode cX9_goesEmpty 9 = .ok (.iload_n 1, 1) := by decide +kernel
theorem dX9_goesEmpty_10 : decode cX9_goesEmpty 10 = .ok (.iconst 0, 1) := by decide +kernel
theorem dX9_goesEmpty_11 : decode cX9_goesEmpty 11 = .ok (.iconst (-1), 1) := by decide +kernel
theorem dX9_goesEmpty_12 : decode cX9_goesEmpty 12 = .ok (.invokevirtual 56, 3) := by decide +kernel
theorem dX9_goesEmpty_15 : decode cX9_goesEmpty 15 = .ok (.iinc 1 1, 3) := by decide +kernel
theorem dX9_goesEmpty_18 : decode cX9_goesEmpty 18 = .ok (.goto (-16), 3) := by decide +kernel
theorem dX9_goesEmpty_21 : decode cX9_goesEmpty 21 = .ok (.aload_n 0, 1) := by decide +kernel
theorem dX9_goesEmpty_22 : decode cX9_goesEmpty 22 = .ok (.getfield 7, 3) := by decide +kernel
theorem dX9_goesEmpty_25 : decode cX9_goesEmpty 25 = .ok (.sipush 360, 3) := by decide +kernel
theorem dX9_goesEmpty_28 : decode cX9_goesEmpty 28 = .ok (.iconst (-1), 1) := by decide +kernel
theorem dX9_goesEmpty_29 : decode cX9_goesEmpty 29 = .ok (.iastore, 1) := by decide +kernel
theorem dX9_goesEmpty_30 : decode cX9_goesEmpty 30 = .ok (.aload_n 0, 1) := by decide +kernel
theorem dX9_goesEmpty_31 : decode cX9_goesEmpty 31 = .ok (.getfield 7, 3) := by decide +kernel
theorem dX9_goesEmpty_34 : decode cX9_goesEmpty 34 = .ok (.sipush 361, 3) := by decide +kernel
theorem dX9_goesEmpty_37 : decode cX9_goesEmpty 37 = .ok (.iconst 0, 1) := by decide +kernel
theorem dX9_goesEmpty_38 : decode cX9_goesEmpty 38 = .ok (.iastore, 1) := by decide +kernel
theorem dX9_goesEmpty_39 : decode cX9_goesEmpty 39 = .ok (.return_, 1) := by decide +kernel
theorem dX9_empties_0 : decode cX9_empties 0 = .ok (.iconst 0, 1) := by decide +kernel
theorem dX9_empties_1 : decode cX9_empties 1 = .ok (.istore_n 1, 1) := by decide +kernel
theorem dX9_empties_2 : decode cX9_empties 2 = .ok (.iload_n 1, 1) := by decide +kernel
theorem dX9_empties_3 : decode cX9_empties 3 = .ok (.sipush 368, 3) := by decide +kernel
theorem dX9_empties_6 : decode cX9_empties 6 = .ok (.if_icmp .ge 16, 3) := by decide +kernel
theorem dX9_empties_9 : decode cX9_empties 9 = .ok (.aload_n 0, 1) := by decide +kernel
theorem dX9_empties_10 : decode cX9_empties 10 = .ok (.getfield 7, 3) := by decide +kernel
theorem dX9_empties_13 : decode cX9_empties 13 = .ok (.iload_n 1, 1) := by decide +kernel
theorem dX9_empties_14 : decode cX9_empties 14 = .ok (.iconst 0, 1) := by decide +kernel
theorem dX9_empties_15 : decode cX9_empties 15 = .ok (.iastore, 1) := by decide +kernel
theorem dX9_empties_16 : decode cX9_empties 16 = .ok (.iinc 1 1, 3) := by decide +kernel
theorem dX9_empties_19 : decode cX9_empties 19 = .ok (.goto (-17), 3) := by decide +kernel
theorem dX9_empties_22 : decode cX9_empties 22 = .ok (.aload_n 0, 1) := by decide +kernel
theorem dX9_empties_23 : decode cX9_empties 23 = .ok (.invokevirtual 60, 3) := by decide +kernel
theorem dX9_empties_26 : decode cX9_empties 26 = .ok (.return_, 1) := by decide +kernel
theorem dX9_top_0 : decode cX9_top 0 = .ok (.aload_n 0, 1) := by decide +kernel
theorem dX9_top_1 : decode cX9_top 1 = .ok (.getfield 7, 3) := by decide +kernel
theorem dX9_top_4 : decode cX9_top 4 = .ok (.sipush 360, 3) := by decide +kernel
theorem dX9_top_7 : decode cX9_top 7 = .ok (.iaload, 1) := by decide +kernel
theorem dX9_top_8 : decode cX9_top 8 = .ok (.ireturn, 1) := by decide +kernel
theorem dX9_many_0 : decode cX9_many 0 = .ok (.aload_n 0, 1) := by decide +kernel
theorem dX9_many_1 : decode cX9_many 1 = .ok (.getfield 7, 3) := by decide +kernel
theorem dX9_many_4 : decode cX9_many 4 = .ok (.sipush 361, 3) := by decide +kernel
theorem dX9_many_7 : decode cX9_many 7 = .ok (.iaload, 1) := by decide +kernel
theorem dX9_many_8 : decode cX9_many 8 = .ok (.ireturn, 1) := by decide +kernel
theorem dX9_rankOf_0 : decode cX9_rankOf 0 = .ok (.iload_n 1, 1) := by decide +kernel
theorem dX9_rankOf_1 : decode cX9_rankOf 1 = .ok (.iconst (-1), 1) := by decide +kernel
theorem dX9_rankOf_2 : decode cX9_rankOf 2 = .ok (.if_icmp .ne 7, 3) := by decide +kernel
theorem dX9_rankOf_5 : decode cX9_rankOf 5 = .ok (.iconst (-1), 1) := by decide +kernel
theorem dX9_rankOf_6 : decode cX9_rankOf 6 = .ok (.goto 9, 3) := by decide +kernel
theorem dX9_rankOf_9 : decode cX9_rankOf 9 = .ok (.aload_n 0, 1) := by decide +kernel
theorem dX9_rankOf_10 : decode cX9_rankOf 10 = .ok (.iload_n 1, 1) := by decide +kernel
theorem dX9_rankOf_11 : decode cX9_rankOf 11 = .ok (.iconst 2, 1) := by decide +kernel
theorem dX9_rankOf_12 : decode cX9_rankOf 12 = .ok (.invokevirtual 63, 3) := by decide +kernel
theorem dX9_rankOf_15 : decode cX9_rankOf 15 = .ok (.ireturn, 1) := by decide +kernel
theorem dX9_child_0 : decode cX9_child 0 = .ok (.aload_n 0, 1) := by decide +kernel
theorem dX9_child_1 : decode cX9_child 1 = .ok (.iload_n 1, 1) := by decide +kernel
theorem dX9_child_2 : decode cX9_child 2 = .ok (.iload_n 2, 1) := by decide +kernel
theorem dX9_child_3 : decode cX9_child 3 = .ok (.ifCond .eq 7, 3) := by decide +kernel
theorem dX9_child_6 : decode cX9_child 6 = .ok (.iconst 3, 1) := by decide +kernel
theorem dX9_child_7 : decode cX9_child 7 = .ok (.goto 4, 3) := by decide +kernel
theorem dX9_child_10 : decode cX9_child 10 = .ok (.iconst 4, 1) := by decide +kernel
theorem dX9_child_11 : decode cX9_child 11 = .ok (.invokevirtual 63, 3) := by decide +kernel
theorem dX9_child_14 : decode cX9_child 14 = .ok (.ireturn, 1) := by decide +kernel
theorem dX9_isLeftOf_0 : decode cX9_isLeftOf 0 = .ok (.aload_n 0, 1) := by decide +kernel
theorem dX9_isLeftOf_1 : decode cX9_isLeftOf 1 = .ok (.iload_n 1, 1) := by decide +kernel
theorem dX9_isLeftOf_2 : decode cX9_isLeftOf 2 = .ok (.iconst 3, 1) := by decide +kernel
theorem dX9_isLeftOf_3 : decode cX9_isLeftOf 3 = .ok (.invokevirtual 63, 3) := by decide +kernel
theorem dX9_isLeftOf_6 : decode cX9_isLeftOf 6 = .ok (.iload_n 2, 1) := by decide +kernel
theorem dX9_isLeftOf_7 : decode cX9_isLeftOf 7 = .ok (.if_icmp .ne 7, 3) := by decide +kernel
theorem dX9_isLeftOf_10 : decode cX9_isLeftOf 10 = .ok (.iconst 1, 1) := by decide +kernel
theorem dX9_isLeftOf_11 : decode cX9_isLeftOf 11 = .ok (.goto 4, 3) := by decide +kernel
theorem dX9_isLeftOf_14 : decode cX9_isLeftOf 14 = .ok (.iconst 0, 1) := by decide +kernel
theorem dX9_isLeftOf_15 : decode cX9_isLeftOf 15 = .ok (.ireturn, 1) := by decide +kernel
theorem dX9_hasNoChildren_0 : decode cX9_hasNoChildren 0 = .ok (.aload_n 0, 1) := by decide +kernel
theorem dX9_hasNoChildren_1 : decode cX9_hasNoChildren 1 = .ok (.iload_n 1, 1) := by decide +kernel
theorem dX9_hasNoChildren_2 : decode cX9_hasNoChildren 2 = .ok (.iconst 3, 1) := by decide +kernel
theorem dX9_hasNoChildren_3 : decode cX9_hasNoChildren 3 = .ok (.invokevirtual 63, 3) := by decide +kernel
theorem dX9_hasNoChildren_6 : decode cX9_hasNoChildren 6 = .ok (.iconst (-1), 1) := by decide +kernel
theorem dX9_hasNoChildren_7 : decode cX9_hasNoChildren 7 = .ok (.if_icmp .ne 17, 3) := by decide +kernel
theorem dX9_hasNoChildren_10 : decode cX9_hasNoChildren 10 = .ok (.aload_n 0, 1) := by decide +kernel
theorem dX9_hasNoChildren_11 : decode cX9_hasNoChildren 11 = .ok (.iload_n 1, 1) := by decide +kernel
theorem dX9_hasNoChildren_12 : decode cX9_hasNoChildren 12 = .ok (.iconst 4, 1) := by decide +kernel
theorem dX9_hasNoChildren_13 : decode cX9_hasNoChildren 13 = .ok (.invokevirtual 63, 3) := by decide +kernel
theorem dX9_hasNoChildren_16 : decode cX9_hasNoChildren 16 = .ok (.iconst (-1), 1) := by decide +kernel
theorem dX9_hasNoChildren_17 : decode cX9_hasNoChildren 17 = .ok (.if_icmp .ne 7, 3) := by decide +kernel
theorem dX9_hasNoChildren_20 : decode cX9_hasNoChildren 20 = .ok (.iconst 1, 1) := by decide +kernel
theorem dX9_hasNoChildren_21 : decode cX9_hasNoChildren 21 = .ok (.goto 4, 3) := by decide +kernel
theorem dX9_hasNoChildren_24 : decode cX9_hasNoChildren 24 = .ok (.iconst 0, 1) := by decide +kernel
theorem dX9_hasNoChildren_25 : decode cX9_hasNoChildren 25 = .ok (.ireturn, 1) := by decide +kernel
theorem dX9_counts_0 : decode cX9_counts 0 = .ok (.aload_n 0, 1) := by decide +kernel
theorem dX9_counts_1 : decode cX9_counts 1 = .ok (.getfield 7, 3) := by decide +kernel
theorem dX9_counts_4 : decode cX9_counts 4 = .ok (.sipush 362, 3) := by decide +kernel
theorem dX9_counts_7 : decode cX9_counts 7 = .ok (.iload_n 1, 1) := by decide +kernel
theorem dX9_counts_8 : decode cX9_counts 8 = .ok (.iadd, 1) := by decide +kernel
theorem dX9_counts_9 : decode cX9_counts 9 = .ok (.dup2, 1) := by decide +kernel
theorem dX9_counts_10 : decode cX9_counts 10 = .ok (.iaload, 1) := by decide +kernel
theorem dX9_counts_11 : decode cX9_counts 11 = .ok (.iconst 1, 1) := by decide +kernel
theorem dX9_counts_12 : decode cX9_counts 12 = .ok (.iadd, 1) := by decide +kernel
theorem dX9_counts_13 : decode cX9_counts 13 = .ok (.iastore, 1) := by decide +kernel
theorem dX9_counts_14 : decode cX9_counts 14 = .ok (.aload_n 0, 1) := by decide +kernel
theorem dX9_counts_15 : decode cX9_counts 15 = .ok (.getfield 7, 3) := by decide +kernel
theorem dX9_counts_18 : decode cX9_counts 18 = .ok (.sipush 365, 3) := by decide +kernel
theorem dX9_counts_21 : decode cX9_counts 21 = .ok (.iload_n 1, 1) := by decide +kernel
theorem dX9_counts_22 : decode cX9_counts 22 = .ok (.iadd, 1) := by decide +kernel
theorem dX9_counts_23 : decode cX9_counts 23 = .ok (.dup2, 1) := by decide +kernel
theorem dX9_counts_24 : decode cX9_counts 24 = .ok (.iaload, 1) := by decide +kernel
theorem dX9_counts_25 : decode cX9_counts 25 = .ok (.iconst 1, 1) := by decide +kernel
theorem dX9_counts_26 : decode cX9_counts 26 = .ok (.iadd, 1) := by decide +kernel
theorem dX9_counts_27 : decode cX9_counts 27 = .ok (.iastore, 1) := by decide +kernel
theorem dX9_counts_28 : decode cX9_counts 28 = .ok (.return_, 1) := by decide +kernel
theorem dX9_begins_0 : decode cX9_begins 0 = .ok (.iconst 0, 1) := by decide +kernel
theorem dX9_begins_1 : decode cX9_begins 1 = .ok (.istore_n 1, 1) := by decide +kernel
theorem dX9_begins_2 : decode cX9_begins 2 = .ok (.iload_n 1, 1) := by decide +kernel
theorem dX9_begins_3 : decode cX9_begins 3 = .ok (.iconst 3, 1) := by decide +kernel
theorem dX9_begins_4 : decode cX9_begins 4 = .ok (.if_icmp .ge 20, 3) := by decide +kernel
theorem dX9_begins_7 : decode cX9_begins 7 = .ok (.aload_n 0, 1) := by decide +kernel
theorem dX9_begins_8 : decode cX9_begins 8 = .ok (.getfield 7, 3) := by decide +kernel
theorem dX9_begins_11 : decode cX9_begins 11 = .ok (.sipush 365, 3) := by decide +kernel
theorem dX9_begins_14 : decode cX9_begins 14 = .ok (.iload_n 1, 1) := by decide +kernel
theorem dX9_begins_15 : decode cX9_begins 15 = .ok (.iadd, 1) := by decide +kernel
theorem dX9_begins_16 : decode cX9_begins 16 = .ok (.iconst 0, 1) := by decide +kernel
theorem dX9_begins_17 : decode cX9_begins 17 = .ok (.iastore, 1) := by decide +kernel
theorem dX9_begins_18 : decode cX9_begins 18 = .ok (.iinc 1 1, 3) := by decide +kernel
theorem dX9_begins_21 : decode cX9_begins 21 = .ok (.goto (-19), 3) := by decide +kernel
theorem dX9_begins_24 : decode cX9_begins 24 = .ok (.return_, 1) := by decide +kernel
theorem dX9_hangs_0 : decode cX9_hangs 0 = .ok (.iload_n 1, 1) := by decide +kernel
theorem dX9_hangs_1 : decode cX9_hangs 1 = .ok (.iconst (-1), 1) := by decide +kernel
theorem dX9_hangs_2 : decode cX9_hangs 2 = .ok (.if_icmp .ne 15, 3) := by decide +kernel
theorem dX9_hangs_5 : decode cX9_hangs 5 = .ok (.aload_n 0, 1) := by decide +kernel
theorem dX9_hangs_6 : decode cX9_hangs 6 = .ok (.getfield 7, 3) := by decide +kernel
theorem dX9_hangs_9 : decode cX9_hangs 9 = .ok (.sipush 360, 3) := by decide +kernel
theorem dX9_hangs_12 : decode cX9_hangs 12 = .ok (.iload_n 3, 1) := by decide +kernel
theorem dX9_hangs_13 : decode cX9_hangs 13 = .ok (.iastore, 1) := by decide +kernel
theorem dX9_hangs_14 : decode cX9_hangs 14 = .ok (.goto 18, 3) := by decide +kernel
theorem dX9_hangs_17 : decode cX9_hangs 17 = .ok (.aload_n 0, 1) := by decide +kernel
theorem dX9_hangs_18 : decode cX9_hangs 18 = .ok (.iload_n 1, 1) := by decide +kernel
theorem dX9_hangs_19 : decode cX9_hangs 19 = .ok (.iload_n 2, 1) := by decide +kernel
theorem dX9_hangs_20 : decode cX9_hangs 20 = .ok (.ifCond .eq 7, 3) := by decide +kernel
theorem dX9_hangs_23 : decode cX9_hangs 23 = .ok (.iconst 3, 1) := by decide +kernel
theorem dX9_hangs_24 : decode cX9_hangs 24 = .ok (.goto 4, 3) := by decide +kernel
theorem dX9_hangs_27 : decode cX9_hangs 27 = .ok (.iconst 4, 1) := by decide +kernel
theorem dX9_hangs_28 : decode cX9_hangs 28 = .ok (.iload_n 3, 1) := by decide +kernel
theorem dX9_hangs_29 : decode cX9_hangs 29 = .ok (.invokevirtual 56, 3) := by decide +kernel
theorem dX9_hangs_32 : decode cX9_hangs 32 = .ok (.iload_n 3, 1) := by decide +kernel
theorem dX9_hangs_33 : decode cX9_hangs 33 = .ok (.iconst (-1), 1) := by decide +kernel
theorem dX9_hangs_34 : decode cX9_hangs 34 = .ok (.if_icmp .eq 10, 3) := by decide +kernel
theorem dX9_hangs_37 : decode cX9_hangs 37 = .ok (.aload_n 0, 1) := by decide +kernel
theorem dX9_hangs_38 : decode cX9_hangs 38 = .ok (.iload_n 3, 1) := by decide +kernel
theorem dX9_hangs_39 : decode cX9_hangs 39 = .ok (.iconst 5, 1) := by decide +kernel
theorem dX9_hangs_40 : decode cX9_hangs 40 = .ok (.iload_n 1, 1) := by decide +kernel
theorem dX9_hangs_41 : decode cX9_hangs 41 = .ok (.invokevirtual 56, 3) := by decide +kernel
theorem dX9_hangs_44 : decode cX9_hangs 44 = .ok (.return_, 1) := by decide +kernel
theorem dX9_turns_0 : decode cX9_turns 0 = .ok (.aload_n 0, 1) := by decide +kernel
theorem dX9_turns_1 : decode cX9_turns 1 = .ok (.iload_n 1, 1) := by decide +kernel
theorem dX9_turns_2 : decode cX9_turns 2 = .ok (.iconst 5, 1) := by decide +kernel
theorem dX9_turns_3 : decode cX9_turns 3 = .ok (.invokevirtual 63, 3) := by decide +kernel
theorem dX9_turns_6 : decode cX9_turns 6 = .ok (.istore_n 2, 1) := by decide +kernel
theorem dX9_turns_7 : decode cX9_turns 7 = .ok (.aload_n 0, 1) := by decide +kernel
theorem dX9_turns_8 : decode cX9_turns 8 = .ok (.iload_n 2, 1) := by decide +kernel
theorem dX9_turns_9 : decode cX9_turns 9 = .ok (.iconst 5, 1) := by decide +kernel
theorem dX9_turns_10 : decode cX9_turns 10 = .ok (.invokevirtual 63, 3) := by decide +kernel
theorem dX9_turns_13 : decode cX9_turns 13 = .ok (.istore_n 3, 1) := by decide +kernel
theorem dX9_turns_14 : decode cX9_turns 14 = .ok (.aload_n 0, 1) := by decide +kernel
theorem dX9_turns_15 : decode cX9_turns 15 = .ok (.iload_n 2, 1) := by decide +kernel
theorem dX9_turns_16 : decode cX9_turns 16 = .ok (.iload_n 1, 1) := by decide +kernel
theorem dX9_turns_17 : decode cX9_turns 17 = .ok (.invokevirtual 67, 3) := by decide +kernel
theorem dX9_turns_20 : decode cX9_turns 20 = .ok (.istore 4, 2) := by decide +kernel
theorem dX9_turns_22 : decode cX9_turns 22 = .ok (.iload_n 3, 1) := by decide +kernel
theorem dX9_turns_23 : decode cX9_turns 23 = .ok (.iconst (-1), 1) := by decide +kernel
theorem dX9_turns_24 : decode cX9_turns 24 = .ok (.if_icmp .eq 16, 3) := by decide +kernel
theorem dX9_turns_27 : decode cX9_turns 27 = .ok (.aload_n 0, 1) := by decide +kernel
theorem dX9_turns_28 : decode cX9_turns 28 = .ok (.iload_n 3, 1) := by decide +kernel
theorem dX9_turns_29 : decode cX9_turns 29 = .ok (.iload_n 2, 1) := by decide +kernel
theorem dX9_turns_30 : decode cX9_turns 30 = .ok (.invokevirtual 67, 3) := by decide +kernel
theorem dX9_turns_33 : decode cX9_turns 33 = .ok (.ifCond .eq 7, 3) := by decide +kernel
theorem dX9_turns_36 : decode cX9_turns 36 = .ok (.iconst 1, 1) := by decide +kernel
theorem dX9_turns_37 : decode cX9_turns 37 = .ok (.goto 4, 3) := by decide +kernel
theorem dX9_turns_40 : decode cX9_turns 40 = .ok (.iconst 0, 1) := by decide +kernel
theorem dX9_turns_41 : decode cX9_turns 41 = .ok (.istore 5, 2) := by decide +kernel
theorem dX9_turns_43 : decode cX9_turns 43 = .ok (.aload_n 0, 1) := by decide +kernel
theorem dX9_turns_44 : decode cX9_turns 44 = .ok (.iload_n 1, 1) := by decide +kernel
theorem dX9_turns_45 : decode cX9_turns 45 = .ok (.iload 4, 2) := by decide +kernel
theorem dX9_turns_47 : decode cX9_turns 47 = .ok (.ifCond .ne 7, 3) := by decide +kernel
theorem dX9_turns_50 : decode cX9_turns 50 = .ok (.iconst 1, 1) := by decide +kernel
theorem dX9_turns_51 : decode cX9_turns 51 = .ok (.goto 4, 3) := by decide +kernel
theorem dX9_turns_54 : decode cX9_turns 54 = .ok (.iconst 0, 1) := by decide +kernel
theorem dX9_turns_55 : decode cX9_turns 55 = .ok (.invokevirtual 71, 3) := by decide +kernel
theorem dX9_turns_58 : decode cX9_turns 58 = .ok (.istore 6, 2) := by decide +kernel
theorem dX9_turns_60 : decode cX9_turns 60 = .ok (.aload_n 0, 1) := by decide +kernel
theorem dX9_turns_61 : decode cX9_turns 61 = .ok (.iload_n 2, 1) := by decide +kernel
theorem dX9_turns_62 : decode cX9_turns 62 = .ok (.iload 4, 2) := by decide +kernel
theorem dX9_turns_64 : decode cX9_turns 64 = .ok (.iload 6, 2) := by decide +kernel
theorem dX9_turns_66 : decode cX9_turns 66 = .ok (.invokevirtual 75, 3) := by decide +kernel
theorem dX9_turns_69 : decode cX9_turns 69 = .ok (.aload_n 0, 1) := by decide +kernel
theorem dX9_turns_70 : decode cX9_turns 70 = .ok (.iload_n 1, 1) := by decide +kernel
theorem dX9_turns_71 : decode cX9_turns 71 = .ok (.iload 4, 2) := by decide +kernel
theorem dX9_turns_73 : decode cX9_turns 73 = .ok (.ifCond .ne 7, 3) := by decide +kernel
theorem dX9_turns_76 : decode cX9_turns 76 = .ok (.iconst 1, 1) := by decide +kernel
theorem dX9_turns_77 : decode cX9_turns 77 = .ok (.goto 4, 3) := by decide +kernel
theorem dX9_turns_80 : decode cX9_turns 80 = .ok (.iconst 0, 1) := by decide +kernel
theorem dX9_turns_81 : decode cX9_turns 81 = .ok (.iload_n 2, 1) := by decide +kernel
theorem dX9_turns_82 : decode cX9_turns 82 = .ok (.invokevirtual 75, 3) := by decide +kernel
theorem dX9_turns_85 : decode cX9_turns 85 = .ok (.aload_n 0, 1) := by decide +kernel
theorem dX9_turns_86 : decode cX9_turns 86 = .ok (.iload_n 3, 1) := by decide +kernel
theorem dX9_turns_87 : decode cX9_turns 87 = .ok (.iload 5, 2) := by decide +kernel
theorem dX9_turns_89 : decode cX9_turns 89 = .ok (.iload_n 1, 1) := by decide +kernel
theorem dX9_turns_90 : decode cX9_turns 90 = .ok (.invokevirtual 75, 3) := by decide +kernel
theorem dX9_turns_93 : decode cX9_turns 93 = .ok (.aload_n 0, 1) := by decide +kernel
theorem dX9_turns_94 : decode cX9_turns 94 = .ok (.iconst 2, 1) := by decide +kernel
theorem dX9_turns_95 : decode cX9_turns 95 = .ok (.invokevirtual 79, 3) := by decide +kernel
theorem dX9_turns_98 : decode cX9_turns 98 = .ok (.return_, 1) := by decide +kernel
theorem dX9_ranks_0 : decode cX9_ranks 0 = .ok (.aload_n 0, 1) := by decide +kernel
theorem dX9_ranks_1 : decode cX9_ranks 1 = .ok (.iload_n 1, 1) := by decide +kernel
theorem dX9_ranks_2 : decode cX9_ranks 2 = .ok (.iconst 2, 1) := by decide +kernel
theorem dX9_ranks_3 : decode cX9_ranks 3 = .ok (.aload_n 0, 1) := by decide +kernel
theorem dX9_ranks_4 : decode cX9_ranks 4 = .ok (.iload_n 1, 1) := by decide +kernel
theorem dX9_ranks_5 : decode cX9_ranks 5 = .ok (.iconst 2, 1) := by decide +kernel
theorem dX9_ranks_6 : decode cX9_ranks 6 = .ok (.invokevirtual 63, 3) := by decide +kernel
theorem dX9_ranks_9 : decode cX9_ranks 9 = .ok (.iload_n 2, 1) := by decide +kernel
theorem dX9_ranks_10 : decode cX9_ranks 10 = .ok (.iadd, 1) := by decide +kernel
theorem dX9_ranks_11 : decode cX9_ranks 11 = .ok (.invokevirtual 56, 3) := by decide +kernel
theorem dX9_ranks_14 : decode cX9_ranks 14 = .ok (.return_, 1) := by decide +kernel
theorem dX9_step_0 : decode cX9_step 0 = .ok (.aload_n 0, 1) := by decide +kernel
theorem dX9_step_1 : decode cX9_step 1 = .ok (.iload_n 1, 1) := by decide +kernel
theorem dX9_step_2 : decode cX9_step 2 = .ok (.iconst 2, 1) := by decide +kernel
theorem dX9_step_3 : decode cX9_step 3 = .ok (.invokevirtual 63, 3) := by decide +kernel
theorem dX9_step_6 : decode cX9_step 6 = .ok (.aload_n 0, 1) := by decide +kernel
theorem dX9_step_7 : decode cX9_step 7 = .ok (.iload_n 2, 1) := by decide +kernel
theorem dX9_step_8 : decode cX9_step 8 = .ok (.invokevirtual 83, 3) := by decide +kernel
theorem dX9_step_11 : decode cX9_step 11 = .ok (.isub, 1) := by decide +kernel
theorem dX9_step_12 : decode cX9_step 12 = .ok (.ireturn, 1) := by decide +kernel
theorem dX9_find_0 : decode cX9_find 0 = .ok (.aload_n 0, 1) := by decide +kernel
theorem dX9_find_1 : decode cX9_find 1 = .ok (.invokevirtual 87, 3) := by decide +kernel
theorem dX9_find_4 : decode cX9_find 4 = .ok (.istore_n 2, 1) := by decide +kernel
theorem dX9_find_5 : decode cX9_find 5 = .ok (.iload_n 2, 1) := by decide +kernel
theorem dX9_find_6 : decode cX9_find 6 = .ok (.iconst (-1), 1) := by decide +kernel
theorem dX9_find_7 : decode cX9_find 7 = .ok (.if_icmp .eq 37, 3) := by decide +kernel
theorem dX9_find_10 : decode cX9_find 10 = .ok (.aload_n 0, 1) := by decide +kernel
theorem dX9_find_11 : decode cX9_find 11 = .ok (.iload_n 2, 1) := by decide +kernel
theorem dX9_find_12 : decode cX9_find 12 = .ok (.iconst 0, 1) := by decide +kernel
theorem dX9_find_13 : decode cX9_find 13 = .ok (.invokevirtual 63, 3) := by decide +kernel
theorem dX9_find_16 : decode cX9_find 16 = .ok (.iload_n 1, 1) := by decide +kernel
theorem dX9_find_17 : decode cX9_find 17 = .ok (.if_icmp .eq 27, 3) := by decide +kernel
theorem dX9_find_20 : decode cX9_find 20 = .ok (.aload_n 0, 1) := by decide +kernel
theorem dX9_find_21 : decode cX9_find 21 = .ok (.iload_n 2, 1) := by decide +kernel
theorem dX9_find_22 : decode cX9_find 22 = .ok (.iload_n 1, 1) := by decide +kernel
theorem dX9_find_23 : decode cX9_find 23 = .ok (.aload_n 0, 1) := by decide +kernel
theorem dX9_find_24 : decode cX9_find 24 = .ok (.iload_n 2, 1) := by decide +kernel
theorem dX9_find_25 : decode cX9_find 25 = .ok (.iconst 0, 1) := by decide +kernel
theorem dX9_find_26 : decode cX9_find 26 = .ok (.invokevirtual 63, 3) := by decide +kernel
theorem dX9_find_29 : decode cX9_find 29 = .ok (.if_icmp .ge 7, 3) := by decide +kernel
theorem dX9_find_32 : decode cX9_find 32 = .ok (.iconst 1, 1) := by decide +kernel
theorem dX9_find_33 : decode cX9_find 33 = .ok (.goto 4, 3) := by decide +kernel
theorem dX9_find_36 : decode cX9_find 36 = .ok (.iconst 0, 1) := by decide +kernel
theorem dX9_find_37 : decode cX9_find 37 = .ok (.invokevirtual 71, 3) := by decide +kernel
theorem dX9_find_40 : decode cX9_find 40 = .ok (.istore_n 2, 1) := by decide +kernel
theorem dX9_find_41 : decode cX9_find 41 = .ok (.goto (-36), 3) := by decide +kernel
theorem dX9_find_44 : decode cX9_find 44 = .ok (.iload_n 2, 1) := by decide +kernel
theorem dX9_find_45 : decode cX9_find 45 = .ok (.ireturn, 1) := by decide +kernel
theorem dX9_freeOne_0 : decode cX9_freeOne 0 = .ok (.iconst 0, 1) := by decide +kernel
theorem dX9_freeOne_1 : decode cX9_freeOne 1 = .ok (.istore_n 1, 1) := by decide +kernel
theorem dX9_freeOne_2 : decode cX9_freeOne 2 = .ok (.aload_n 0, 1) := by decide +kernel
theorem dX9_freeOne_3 : decode cX9_freeOne 3 = .ok (.iload_n 1, 1) := by decide +kernel
theorem dX9_freeOne_4 : decode cX9_freeOne 4 = .ok (.iconst 0, 1) := by decide +kernel
theorem dX9_freeOne_5 : decode cX9_freeOne 5 = .ok (.invokevirtual 63, 3) := by decide +kernel
theorem dX9_freeOne_8 : decode cX9_freeOne 8 = .ok (.iconst (-1), 1) := by decide +kernel
theorem dX9_freeOne_9 : decode cX9_freeOne 9 = .ok (.if_icmp .eq 9, 3) := by decide +kernel
theorem dX9_freeOne_12 : decode cX9_freeOne 12 = .ok (.iinc 1 1, 3) := by decide +kernel
theorem dX9_freeOne_15 : decode cX9_freeOne 15 = .ok (.goto (-13), 3) := by decide +kernel
theorem dX9_freeOne_18 : decode cX9_freeOne 18 = .ok (.iload_n 1, 1) := by decide +kernel
theorem dX9_freeOne_19 : decode cX9_freeOne 19 = .ok (.ireturn, 1) := by decide +kernel
theorem dX9_puts_0 : decode cX9_puts 0 = .ok (.aload_n 0, 1) := by decide +kernel
theorem dX9_puts_1 : decode cX9_puts 1 = .ok (.invokevirtual 91, 3) := by decide +kernel
theorem dX9_puts_4 : decode cX9_puts 4 = .ok (.istore_n 3, 1) := by decide +kernel
theorem dX9_puts_5 : decode cX9_puts 5 = .ok (.iconst (-1), 1) := by decide +kernel
theorem dX9_puts_6 : decode cX9_puts 6 = .ok (.istore 4, 2) := by decide +kernel
theorem dX9_puts_8 : decode cX9_puts 8 = .ok (.aload_n 0, 1) := by decide +kernel
theorem dX9_puts_9 : decode cX9_puts 9 = .ok (.invokevirtual 87, 3) := by decide +kernel
theorem dX9_puts_12 : decode cX9_puts 12 = .ok (.istore 5, 2) := by decide +kernel
theorem dX9_puts_14 : decode cX9_puts 14 = .ok (.aload_n 0, 1) := by decide +kernel
theorem dX9_puts_15 : decode cX9_puts 15 = .ok (.invokevirtual 94, 3) := by decide +kernel
theorem dX9_puts_18 : decode cX9_puts 18 = .ok (.iload 5, 2) := by decide +kernel
theorem dX9_puts_20 : decode cX9_puts 20 = .ok (.iconst (-1), 1) := by decide +kernel
theorem dX9_puts_21 : decode cX9_puts 21 = .ok (.if_icmp .eq 34, 3) := by decide +kernel
theorem dX9_puts_24 : decode cX9_puts 24 = .ok (.iload 5, 2) := by decide +kernel
theorem dX9_puts_26 : decode cX9_puts 26 = .ok (.istore 4, 2) := by decide +kernel
theorem dX9_puts_28 : decode cX9_puts 28 = .ok (.aload_n 0, 1) := by decide +kernel
theorem dX9_puts_29 : decode cX9_puts 29 = .ok (.iload 5, 2) := by decide +kernel
theorem dX9_puts_31 : decode cX9_puts 31 = .ok (.iload_n 1, 1) := by decide +kernel
theorem dX9_puts_32 : decode cX9_puts 32 = .ok (.aload_n 0, 1) := by decide +kernel
theorem dX9_puts_33 : decode cX9_puts 33 = .ok (.iload 5, 2) := by decide +kernel
theorem dX9_puts_35 : decode cX9_puts 35 = .ok (.iconst 0, 1) := by decide +kernel
theorem dX9_puts_36 : decode cX9_puts 36 = .ok (.invokevirtual 63, 3) := by decide +kernel
theorem dX9_puts_39 : decode cX9_puts 39 = .ok (.if_icmp .ge 7, 3) := by decide +kernel
theorem dX9_puts_42 : decode cX9_puts 42 = .ok (.iconst 1, 1) := by decide +kernel
theorem dX9_puts_43 : decode cX9_puts 43 = .ok (.goto 4, 3) := by decide +kernel
theorem dX9_puts_46 : decode cX9_puts 46 = .ok (.iconst 0, 1) := by decide +kernel
theorem dX9_puts_47 : decode cX9_puts 47 = .ok (.invokevirtual 71, 3) := by decide +kernel
theorem dX9_puts_50 : decode cX9_puts 50 = .ok (.istore 5, 2) := by decide +kernel
theorem dX9_puts_52 : decode cX9_puts 52 = .ok (.goto (-34), 3) := by decide +kernel
theorem dX9_puts_55 : decode cX9_puts 55 = .ok (.aload_n 0, 1) := by decide +kernel
theorem dX9_puts_56 : decode cX9_puts 56 = .ok (.iload_n 3, 1) := by decide +kernel
theorem dX9_puts_57 : decode cX9_puts 57 = .ok (.iconst 0, 1) := by decide +kernel
theorem dX9_puts_58 : decode cX9_puts 58 = .ok (.iload_n 1, 1) := by decide +kernel
theorem dX9_puts_59 : decode cX9_puts 59 = .ok (.invokevirtual 56, 3) := by decide +kernel
theorem dX9_puts_62 : decode cX9_puts 62 = .ok (.aload_n 0, 1) := by decide +kernel
theorem dX9_puts_63 : decode cX9_puts 63 = .ok (.iload_n 3, 1) := by decide +kernel
theorem dX9_puts_64 : decode cX9_puts 64 = .ok (.iconst 1, 1) := by decide +kernel
theorem dX9_puts_65 : decode cX9_puts 65 = .ok (.iload_n 2, 1) := by decide +kernel
theorem dX9_puts_66 : decode cX9_puts 66 = .ok (.invokevirtual 56, 3) := by decide +kernel
theorem dX9_puts_69 : decode cX9_puts 69 = .ok (.aload_n 0, 1) := by decide +kernel
theorem dX9_puts_70 : decode cX9_puts 70 = .ok (.iload_n 3, 1) := by decide +kernel
theorem dX9_puts_71 : decode cX9_puts 71 = .ok (.iconst 2, 1) := by decide +kernel
theorem dX9_puts_72 : decode cX9_puts 72 = .ok (.iconst 0, 1) := by decide +kernel
theorem dX9_puts_73 : decode cX9_puts 73 = .ok (.invokevirtual 56, 3) := by decide +kernel
theorem dX9_puts_76 : decode cX9_puts 76 = .ok (.aload_n 0, 1) := by decide +kernel
theorem dX9_puts_77 : decode cX9_puts 77 = .ok (.iload_n 3, 1) := by decide +kernel
theorem dX9_puts_78 : decode cX9_puts 78 = .ok (.iconst 3, 1) := by decide +kernel
theorem dX9_puts_79 : decode cX9_puts 79 = .ok (.iconst (-1), 1) := by decide +kernel
theorem dX9_puts_80 : decode cX9_puts 80 = .ok (.invokevirtual 56, 3) := by decide +kernel
theorem dX9_puts_83 : decode cX9_puts 83 = .ok (.aload_n 0, 1) := by decide +kernel
theorem dX9_puts_84 : decode cX9_puts 84 = .ok (.iload_n 3, 1) := by decide +kernel
theorem dX9_puts_85 : decode cX9_puts 85 = .ok (.iconst 4, 1) := by decide +kernel
theorem dX9_puts_86 : decode cX9_puts 86 = .ok (.iconst (-1), 1) := by decide +kernel
theorem dX9_puts_87 : decode cX9_puts 87 = .ok (.invokevirtual 56, 3) := by decide +kernel
theorem dX9_puts_90 : decode cX9_puts 90 = .ok (.aload_n 0, 1) := by decide +kernel
theorem dX9_puts_91 : decode cX9_puts 91 = .ok (.iload 4, 2) := by decide +kernel
theorem dX9_puts_93 : decode cX9_puts 93 = .ok (.iload 4, 2) := by decide +kernel
theorem dX9_puts_95 : decode cX9_puts 95 = .ok (.iconst (-1), 1) := by decide +kernel
theorem dX9_puts_96 : decode cX9_puts 96 = .ok (.if_icmp .eq 18, 3) := by decide +kernel
theorem dX9_puts_99 : decode cX9_puts 99 = .ok (.iload_n 1, 1) := by decide +kernel
theorem dX9_puts_100 : decode cX9_puts 100 = .ok (.aload_n 0, 1) := by decide +kernel
theorem dX9_puts_101 : decode cX9_puts 101 = .ok (.iload 4, 2) := by decide +kernel
theorem dX9_puts_103 : decode cX9_puts 103 = .ok (.iconst 0, 1) := by decide +kernel
theorem dX9_puts_104 : decode cX9_puts 104 = .ok (.invokevirtual 63, 3) := by decide +kernel
theorem dX9_puts_107 : decode cX9_puts 107 = .ok (.if_icmp .ge 7, 3) := by decide +kernel
theorem dX9_puts_110 : decode cX9_puts 110 = .ok (.iconst 1, 1) := by decide +kernel
theorem dX9_puts_111 : decode cX9_puts 111 = .ok (.goto 4, 3) := by decide +kernel
theorem dX9_puts_114 : decode cX9_puts 114 = .ok (.iconst 0, 1) := by decide +kernel
theorem dX9_puts_115 : decode cX9_puts 115 = .ok (.iload_n 3, 1) := by decide +kernel
theorem dX9_puts_116 : decode cX9_puts 116 = .ok (.invokevirtual 75, 3) := by decide +kernel
theorem dX9_puts_119 : decode cX9_puts 119 = .ok (.aload_n 0, 1) := by decide +kernel
theorem dX9_puts_120 : decode cX9_puts 120 = .ok (.getfield 7, 3) := by decide +kernel
theorem dX9_puts_123 : decode cX9_puts 123 = .ok (.sipush 361, 3) := by decide +kernel
theorem dX9_puts_126 : decode cX9_puts 126 = .ok (.dup2, 1) := by decide +kernel
theorem dX9_puts_127 : decode cX9_puts 127 = .ok (.iaload, 1) := by decide +kernel
theorem dX9_puts_128 : decode cX9_puts 128 = .ok (.iconst 1, 1) := by decide +kernel
theorem dX9_puts_129 : decode cX9_puts 129 = .ok (.iadd, 1) := by decide +kernel
theorem dX9_puts_130 : decode cX9_puts 130 = .ok (.iastore, 1) := by decide +kernel
theorem dX9_puts_131 : decode cX9_puts 131 = .ok (.aload_n 0, 1) := by decide +kernel
theorem dX9_puts_132 : decode cX9_puts 132 = .ok (.iload_n 3, 1) := by decide +kernel
theorem dX9_puts_133 : decode cX9_puts 133 = .ok (.invokevirtual 97, 3) := by decide +kernel
theorem dX9_puts_136 : decode cX9_puts 136 = .ok (.return_, 1) := by decide +kernel
theorem dX9_rises_0 : decode cX9_rises 0 = .ok (.iload_n 1, 1) := by decide +kernel
theorem dX9_rises_1 : decode cX9_rises 1 = .ok (.istore_n 2, 1) := by decide +kernel
theorem dX9_rises_2 : decode cX9_rises 2 = .ok (.iconst 1, 1) := by decide +kernel
theorem dX9_rises_3 : decode cX9_rises 3 = .ok (.istore_n 3, 1) := by decide +kernel
theorem dX9_rises_4 : decode cX9_rises 4 = .ok (.iload_n 3, 1) := by decide +kernel
theorem dX9_rises_5 : decode cX9_rises 5 = .ok (.ifCond .eq 117, 3) := by decide +kernel
theorem dX9_rises_8 : decode cX9_rises 8 = .ok (.aload_n 0, 1) := by decide +kernel
theorem dX9_rises_9 : decode cX9_rises 9 = .ok (.iload_n 2, 1) := by decide +kernel
theorem dX9_rises_10 : decode cX9_rises 10 = .ok (.iconst 5, 1) := by decide +kernel
theorem dX9_rises_11 : decode cX9_rises 11 = .ok (.invokevirtual 63, 3) := by decide +kernel
theorem dX9_rises_14 : decode cX9_rises 14 = .ok (.istore 4, 2) := by decide +kernel
theorem dX9_rises_16 : decode cX9_rises 16 = .ok (.iload 4, 2) := by decide +kernel
theorem dX9_rises_18 : decode cX9_rises 18 = .ok (.iconst (-1), 1) := by decide +kernel
theorem dX9_rises_19 : decode cX9_rises 19 = .ok (.if_icmp .eq 17, 3) := by decide +kernel
theorem dX9_rises_22 : decode cX9_rises 22 = .ok (.aload_n 0, 1) := by decide +kernel
theorem dX9_rises_23 : decode cX9_rises 23 = .ok (.iload 4, 2) := by decide +kernel
theorem dX9_rises_25 : decode cX9_rises 25 = .ok (.iload_n 2, 1) := by decide +kernel
theorem dX9_rises_26 : decode cX9_rises 26 = .ok (.invokevirtual 100, 3) := by decide +kernel
theorem dX9_rises_29 : decode cX9_rises 29 = .ok (.ifCond .ne 7, 3) := by decide +kernel
theorem dX9_rises_32 : decode cX9_rises 32 = .ok (.iconst 1, 1) := by decide +kernel
theorem dX9_rises_33 : decode cX9_rises 33 = .ok (.goto 4, 3) := by decide +kernel
theorem dX9_rises_36 : decode cX9_rises 36 = .ok (.iconst 0, 1) := by decide +kernel
theorem dX9_rises_37 : decode cX9_rises 37 = .ok (.istore_n 3, 1) := by decide +kernel
theorem dX9_rises_38 : decode cX9_rises 38 = .ok (.iload_n 3, 1) := by decide +kernel
theorem dX9_rises_39 : decode cX9_rises 39 = .ok (.ifCond .eq 80, 3) := by decide +kernel
theorem dX9_rises_42 : decode cX9_rises 42 = .ok (.aload_n 0, 1) := by decide +kernel
theorem dX9_rises_43 : decode cX9_rises 43 = .ok (.iload 4, 2) := by decide +kernel
theorem dX9_rises_45 : decode cX9_rises 45 = .ok (.iload_n 2, 1) := by decide +kernel
theorem dX9_rises_46 : decode cX9_rises 46 = .ok (.invokevirtual 67, 3) := by decide +kernel
theorem dX9_rises_49 : decode cX9_rises 49 = .ok (.istore 5, 2) := by decide +kernel
theorem dX9_rises_51 : decode cX9_rises 51 = .ok (.aload_n 0, 1) := by decide +kernel
theorem dX9_rises_52 : decode cX9_rises 52 = .ok (.iload 4, 2) := by decide +kernel
theorem dX9_rises_54 : decode cX9_rises 54 = .ok (.aload_n 0, 1) := by decide +kernel
theorem dX9_rises_55 : decode cX9_rises 55 = .ok (.iload 4, 2) := by decide +kernel
theorem dX9_rises_57 : decode cX9_rises 57 = .ok (.iload 5, 2) := by decide +kernel
theorem dX9_rises_59 : decode cX9_rises 59 = .ok (.ifCond .ne 7, 3) := by decide +kernel
theorem dX9_rises_62 : decode cX9_rises 62 = .ok (.iconst 1, 1) := by decide +kernel
theorem dX9_rises_63 : decode cX9_rises 63 = .ok (.goto 4, 3) := by decide +kernel
theorem dX9_rises_66 : decode cX9_rises 66 = .ok (.iconst 0, 1) := by decide +kernel
theorem dX9_rises_67 : decode cX9_rises 67 = .ok (.invokevirtual 71, 3) := by decide +kernel
theorem dX9_rises_70 : decode cX9_rises 70 = .ok (.invokevirtual 100, 3) := by decide +kernel
theorem dX9_rises_73 : decode cX9_rises 73 = .ok (.iconst 1, 1) := by decide +kernel
theorem dX9_rises_74 : decode cX9_rises 74 = .ok (.if_icmp .ne 21, 3) := by decide +kernel
theorem dX9_rises_77 : decode cX9_rises 77 = .ok (.aload_n 0, 1) := by decide +kernel
theorem dX9_rises_78 : decode cX9_rises 78 = .ok (.iload 4, 2) := by decide +kernel
theorem dX9_rises_80 : decode cX9_rises 80 = .ok (.iconst 1, 1) := by decide +kernel
theorem dX9_rises_81 : decode cX9_rises 81 = .ok (.invokevirtual 103, 3) := by decide +kernel
theorem dX9_rises_84 : decode cX9_rises 84 = .ok (.aload_n 0, 1) := by decide +kernel
theorem dX9_rises_85 : decode cX9_rises 85 = .ok (.iconst 0, 1) := by decide +kernel
theorem dX9_rises_86 : decode cX9_rises 86 = .ok (.invokevirtual 79, 3) := by decide +kernel
theorem dX9_rises_89 : decode cX9_rises 89 = .ok (.iload 4, 2) := by decide +kernel
theorem dX9_rises_91 : decode cX9_rises 91 = .ok (.istore_n 2, 1) := by decide +kernel
theorem dX9_rises_92 : decode cX9_rises 92 = .ok (.goto 27, 3) := by decide +kernel
theorem dX9_rises_95 : decode cX9_rises 95 = .ok (.aload_n 0, 1) := by decide +kernel
theorem dX9_rises_96 : decode cX9_rises 96 = .ok (.iload_n 2, 1) := by decide +kernel
theorem dX9_rises_97 : decode cX9_rises 97 = .ok (.iload 4, 2) := by decide +kernel
theorem dX9_rises_99 : decode cX9_rises 99 = .ok (.aload_n 0, 1) := by decide +kernel
theorem dX9_rises_100 : decode cX9_rises 100 = .ok (.iload_n 2, 1) := by decide +kernel
theorem dX9_rises_101 : decode cX9_rises 101 = .ok (.iload 5, 2) := by decide +kernel
theorem dX9_rises_103 : decode cX9_rises 103 = .ok (.ifCond .ne 7, 3) := by decide +kernel
theorem dX9_rises_106 : decode cX9_rises 106 = .ok (.iconst 1, 1) := by decide +kernel
theorem dX9_rises_107 : decode cX9_rises 107 = .ok (.goto 4, 3) := by decide +kernel
theorem dX9_rises_110 : decode cX9_rises 110 = .ok (.iconst 0, 1) := by decide +kernel
theorem dX9_rises_111 : decode cX9_rises 111 = .ok (.invokevirtual 71, 3) := by decide +kernel
theorem dX9_rises_114 : decode cX9_rises 114 = .ok (.invokevirtual 107, 3) := by decide +kernel
theorem dX9_rises_117 : decode cX9_rises 117 = .ok (.iconst 0, 1) := by decide +kernel
theorem dX9_rises_118 : decode cX9_rises 118 = .ok (.istore_n 3, 1) := by decide +kernel
theorem dX9_rises_119 : decode cX9_rises 119 = .ok (.goto (-115), 3) := by decide +kernel
theorem dX9_rises_122 : decode cX9_rises 122 = .ok (.return_, 1) := by decide +kernel
theorem dX9_turnsUp_0 : decode cX9_turnsUp 0 = .ok (.aload_n 0, 1) := by decide +kernel
theorem dX9_turnsUp_1 : decode cX9_turnsUp 1 = .ok (.iload_n 1, 1) := by decide +kernel
theorem dX9_turnsUp_2 : decode cX9_turnsUp 2 = .ok (.iload_n 3, 1) := by decide +kernel
theorem dX9_turnsUp_3 : decode cX9_turnsUp 3 = .ok (.invokevirtual 100, 3) := by decide +kernel
theorem dX9_turnsUp_6 : decode cX9_turnsUp 6 = .ok (.iconst 2, 1) := by decide +kernel
theorem dX9_turnsUp_7 : decode cX9_turnsUp 7 = .ok (.if_icmp .ne 17, 3) := by decide +kernel
theorem dX9_turnsUp_10 : decode cX9_turnsUp 10 = .ok (.aload_n 0, 1) := by decide +kernel
theorem dX9_turnsUp_11 : decode cX9_turnsUp 11 = .ok (.iload_n 1, 1) := by decide +kernel
theorem dX9_turnsUp_12 : decode cX9_turnsUp 12 = .ok (.invokevirtual 110, 3) := by decide +kernel
theorem dX9_turnsUp_15 : decode cX9_turnsUp 15 = .ok (.aload_n 0, 1) := by decide +kernel
theorem dX9_turnsUp_16 : decode cX9_turnsUp 16 = .ok (.iload_n 2, 1) := by decide +kernel
theorem dX9_turnsUp_17 : decode cX9_turnsUp 17 = .ok (.iconst (-1), 1) := by decide +kernel
theorem dX9_turnsUp_18 : decode cX9_turnsUp 18 = .ok (.invokevirtual 103, 3) := by decide +kernel
theorem dX9_turnsUp_21 : decode cX9_turnsUp 21 = .ok (.goto 31, 3) := by decide +kernel
theorem dX9_turnsUp_24 : decode cX9_turnsUp 24 = .ok (.aload_n 0, 1) := by decide +kernel
theorem dX9_turnsUp_25 : decode cX9_turnsUp 25 = .ok (.iload_n 3, 1) := by decide +kernel
theorem dX9_turnsUp_26 : decode cX9_turnsUp 26 = .ok (.invokevirtual 110, 3) := by decide +kernel
theorem dX9_turnsUp_29 : decode cX9_turnsUp 29 = .ok (.aload_n 0, 1) := by decide +kernel
theorem dX9_turnsUp_30 : decode cX9_turnsUp 30 = .ok (.iload_n 3, 1) := by decide +kernel
theorem dX9_turnsUp_31 : decode cX9_turnsUp 31 = .ok (.invokevirtual 110, 3) := by decide +kernel
theorem dX9_turnsUp_34 : decode cX9_turnsUp 34 = .ok (.aload_n 0, 1) := by decide +kernel
theorem dX9_turnsUp_35 : decode cX9_turnsUp 35 = .ok (.iload_n 3, 1) := by decide +kernel
theorem dX9_turnsUp_36 : decode cX9_turnsUp 36 = .ok (.iconst 1, 1) := by decide +kernel
theorem dX9_turnsUp_37 : decode cX9_turnsUp 37 = .ok (.invokevirtual 103, 3) := by decide +kernel
theorem dX9_turnsUp_40 : decode cX9_turnsUp 40 = .ok (.aload_n 0, 1) := by decide +kernel
theorem dX9_turnsUp_41 : decode cX9_turnsUp 41 = .ok (.iload_n 1, 1) := by decide +kernel
theorem dX9_turnsUp_42 : decode cX9_turnsUp 42 = .ok (.iconst (-1), 1) := by decide +kernel
theorem dX9_turnsUp_43 : decode cX9_turnsUp 43 = .ok (.invokevirtual 103, 3) := by decide +kernel
theorem dX9_turnsUp_46 : decode cX9_turnsUp 46 = .ok (.aload_n 0, 1) := by decide +kernel
theorem dX9_turnsUp_47 : decode cX9_turnsUp 47 = .ok (.iload_n 2, 1) := by decide +kernel
theorem dX9_turnsUp_48 : decode cX9_turnsUp 48 = .ok (.iconst (-1), 1) := by decide +kernel
theorem dX9_turnsUp_49 : decode cX9_turnsUp 49 = .ok (.invokevirtual 103, 3) := by decide +kernel
theorem dX9_turnsUp_52 : decode cX9_turnsUp 52 = .ok (.return_, 1) := by decide +kernel
theorem dX9_leastBelow_0 : decode cX9_leastBelow 0 = .ok (.iload_n 1, 1) := by decide +kernel
theorem dX9_leastBelow_1 : decode cX9_leastBelow 1 = .ok (.istore_n 2, 1) := by decide +kernel
theorem dX9_leastBelow_2 : decode cX9_leastBelow 2 = .ok (.aload_n 0, 1) := by decide +kernel
theorem dX9_leastBelow_3 : decode cX9_leastBelow 3 = .ok (.iload_n 2, 1) := by decide +kernel
theorem dX9_leastBelow_4 : decode cX9_leastBelow 4 = .ok (.iconst 3, 1) := by decide +kernel
theorem dX9_leastBelow_5 : decode cX9_leastBelow 5 = .ok (.invokevirtual 63, 3) := by decide +kernel
theorem dX9_leastBelow_8 : decode cX9_leastBelow 8 = .ok (.iconst (-1), 1) := by decide +kernel
theorem dX9_leastBelow_9 : decode cX9_leastBelow 9 = .ok (.if_icmp .eq 13, 3) := by decide +kernel
theorem dX9_leastBelow_12 : decode cX9_leastBelow 12 = .ok (.aload_n 0, 1) := by decide +kernel
theorem dX9_leastBelow_13 : decode cX9_leastBelow 13 = .ok (.iload_n 2, 1) := by decide +kernel
theorem dX9_leastBelow_14 : decode cX9_leastBelow 14 = .ok (.iconst 3, 1) := by decide +kernel
theorem dX9_leastBelow_15 : decode cX9_leastBelow 15 = .ok (.invokevirtual 63, 3) := by decide +kernel
theorem dX9_leastBelow_18 : decode cX9_leastBelow 18 = .ok (.istore_n 2, 1) := by decide +kernel
theorem dX9_leastBelow_19 : decode cX9_leastBelow 19 = .ok (.goto (-17), 3) := by decide +kernel
theorem dX9_leastBelow_22 : decode cX9_leastBelow 22 = .ok (.iload_n 2, 1) := by decide +kernel
theorem dX9_leastBelow_23 : decode cX9_leastBelow 23 = .ok (.ireturn, 1) := by decide +kernel
theorem dX9_takes_0 : decode cX9_takes 0 = .ok (.iload_n 1, 1) := by decide +kernel
theorem dX9_takes_1 : decode cX9_takes 1 = .ok (.istore_n 2, 1) := by decide +kernel
theorem dX9_takes_2 : decode cX9_takes 2 = .ok (.aload_n 0, 1) := by decide +kernel
theorem dX9_takes_3 : decode cX9_takes 3 = .ok (.invokevirtual 94, 3) := by decide +kernel
theorem dX9_takes_6 : decode cX9_takes 6 = .ok (.aload_n 0, 1) := by decide +kernel
theorem dX9_takes_7 : decode cX9_takes 7 = .ok (.iload_n 1, 1) := by decide +kernel
theorem dX9_takes_8 : decode cX9_takes 8 = .ok (.iconst 3, 1) := by decide +kernel
theorem dX9_takes_9 : decode cX9_takes 9 = .ok (.invokevirtual 63, 3) := by decide +kernel
theorem dX9_takes_12 : decode cX9_takes 12 = .ok (.iconst (-1), 1) := by decide +kernel
theorem dX9_takes_13 : decode cX9_takes 13 = .ok (.if_icmp .eq 48, 3) := by decide +kernel
theorem dX9_takes_16 : decode cX9_takes 16 = .ok (.aload_n 0, 1) := by decide +kernel
theorem dX9_takes_17 : decode cX9_takes 17 = .ok (.iload_n 1, 1) := by decide +kernel
theorem dX9_takes_18 : decode cX9_takes 18 = .ok (.iconst 4, 1) := by decide +kernel
theorem dX9_takes_19 : decode cX9_takes 19 = .ok (.invokevirtual 63, 3) := by decide +kernel
theorem dX9_takes_22 : decode cX9_takes 22 = .ok (.iconst (-1), 1) := by decide +kernel
theorem dX9_takes_23 : decode cX9_takes 23 = .ok (.if_icmp .eq 38, 3) := by decide +kernel
theorem dX9_takes_26 : decode cX9_takes 26 = .ok (.aload_n 0, 1) := by decide +kernel
theorem dX9_takes_27 : decode cX9_takes 27 = .ok (.aload_n 0, 1) := by decide +kernel
theorem dX9_takes_28 : decode cX9_takes 28 = .ok (.iload_n 1, 1) := by decide +kernel
theorem dX9_takes_29 : decode cX9_takes 29 = .ok (.iconst 4, 1) := by decide +kernel
theorem dX9_takes_30 : decode cX9_takes 30 = .ok (.invokevirtual 63, 3) := by decide +kernel
theorem dX9_takes_33 : decode cX9_takes 33 = .ok (.invokevirtual 113, 3) := by decide +kernel
theorem dX9_takes_36 : decode cX9_takes 36 = .ok (.istore_n 2, 1) := by decide +kernel
theorem dX9_takes_37 : decode cX9_takes 37 = .ok (.aload_n 0, 1) := by decide +kernel
theorem dX9_takes_38 : decode cX9_takes 38 = .ok (.iload_n 1, 1) := by decide +kernel
theorem dX9_takes_39 : decode cX9_takes 39 = .ok (.iconst 0, 1) := by decide +kernel
theorem dX9_takes_40 : decode cX9_takes 40 = .ok (.aload_n 0, 1) := by decide +kernel
theorem dX9_takes_41 : decode cX9_takes 41 = .ok (.iload_n 2, 1) := by decide +kernel
theorem dX9_takes_42 : decode cX9_takes 42 = .ok (.iconst 0, 1) := by decide +kernel
theorem dX9_takes_43 : decode cX9_takes 43 = .ok (.invokevirtual 63, 3) := by decide +kernel
theorem dX9_takes_46 : decode cX9_takes 46 = .ok (.invokevirtual 56, 3) := by decide +kernel
theorem dX9_takes_49 : decode cX9_takes 49 = .ok (.aload_n 0, 1) := by decide +kernel
theorem dX9_takes_50 : decode cX9_takes 50 = .ok (.iload_n 1, 1) := by decide +kernel
theorem dX9_takes_51 : decode cX9_takes 51 = .ok (.iconst 1, 1) := by decide +kernel
theorem dX9_takes_52 : decode cX9_takes 52 = .ok (.aload_n 0, 1) := by decide +kernel
theorem dX9_takes_53 : decode cX9_takes 53 = .ok (.iload_n 2, 1) := by decide +kernel
theorem dX9_takes_54 : decode cX9_takes 54 = .ok (.iconst 1, 1) := by decide +kernel
theorem dX9_takes_55 : decode cX9_takes 55 = .ok (.invokevirtual 63, 3) := by decide +kernel
theorem dX9_takes_58 : decode cX9_takes 58 = .ok (.invokevirtual 56, 3) := by decide +kernel
theorem dX9_takes_61 : decode cX9_takes 61 = .ok (.aload_n 0, 1) := by decide +kernel
theorem dX9_takes_62 : decode cX9_takes 62 = .ok (.iload_n 2, 1) := by decide +kernel
theorem dX9_takes_63 : decode cX9_takes 63 = .ok (.iconst 3, 1) := by decide +kernel
theorem dX9_takes_64 : decode cX9_takes 64 = .ok (.invokevirtual 63, 3) := by decide +kernel
theorem dX9_takes_67 : decode cX9_takes 67 = .ok (.iconst (-1), 1) := by decide +kernel
theorem dX9_takes_68 : decode cX9_takes 68 = .ok (.if_icmp .ne 12, 3) := by decide +kernel
theorem dX9_takes_71 : decode cX9_takes 71 = .ok (.aload_n 0, 1) := by decide +kernel
theorem dX9_takes_72 : decode cX9_takes 72 = .ok (.iload_n 2, 1) := by decide +kernel
theorem dX9_takes_73 : decode cX9_takes 73 = .ok (.iconst 4, 1) := by decide +kernel
theorem dX9_takes_74 : decode cX9_takes 74 = .ok (.invokevirtual 63, 3) := by decide +kernel
theorem dX9_takes_77 : decode cX9_takes 77 = .ok (.goto 9, 3) := by decide +kernel
theorem dX9_takes_80 : decode cX9_takes 80 = .ok (.aload_n 0, 1) := by decide +kernel
theorem dX9_takes_81 : decode cX9_takes 81 = .ok (.iload_n 2, 1) := by decide +kernel
theorem dX9_takes_82 : decode cX9_takes 82 = .ok (.iconst 3, 1) := by decide +kernel
theorem dX9_takes_83 : decode cX9_takes 83 = .ok (.invokevirtual 63, 3) := by decide +kernel
theorem dX9_takes_86 : decode cX9_takes 86 = .ok (.istore_n 3, 1) := by decide +kernel
theorem dX9_takes_87 : decode cX9_takes 87 = .ok (.aload_n 0, 1) := by decide +kernel
theorem dX9_takes_88 : decode cX9_takes 88 = .ok (.iload_n 2, 1) := by decide +kernel
theorem dX9_takes_89 : decode cX9_takes 89 = .ok (.iconst 5, 1) := by decide +kernel
theorem dX9_takes_90 : decode cX9_takes 90 = .ok (.invokevirtual 63, 3) := by decide +kernel
theorem dX9_takes_93 : decode cX9_takes 93 = .ok (.istore 4, 2) := by decide +kernel
theorem dX9_takes_95 : decode cX9_takes 95 = .ok (.iload 4, 2) := by decide +kernel
theorem dX9_takes_97 : decode cX9_takes 97 = .ok (.iconst (-1), 1) := by decide +kernel
theorem dX9_takes_98 : decode cX9_takes 98 = .ok (.if_icmp .eq 17, 3) := by decide +kernel
theorem dX9_takes_101 : decode cX9_takes 101 = .ok (.aload_n 0, 1) := by decide +kernel
theorem dX9_takes_102 : decode cX9_takes 102 = .ok (.iload 4, 2) := by decide +kernel
theorem dX9_takes_104 : decode cX9_takes 104 = .ok (.iload_n 2, 1) := by decide +kernel
theorem dX9_takes_105 : decode cX9_takes 105 = .ok (.invokevirtual 67, 3) := by decide +kernel
theorem dX9_takes_108 : decode cX9_takes 108 = .ok (.ifCond .eq 7, 3) := by decide +kernel
theorem dX9_takes_111 : decode cX9_takes 111 = .ok (.iconst 1, 1) := by decide +kernel
theorem dX9_takes_112 : decode cX9_takes 112 = .ok (.goto 4, 3) := by decide +kernel
theorem dX9_takes_115 : decode cX9_takes 115 = .ok (.iconst 0, 1) := by decide +kernel
theorem dX9_takes_116 : decode cX9_takes 116 = .ok (.istore 5, 2) := by decide +kernel
theorem dX9_takes_118 : decode cX9_takes 118 = .ok (.aload_n 0, 1) := by decide +kernel
theorem dX9_takes_119 : decode cX9_takes 119 = .ok (.iload 4, 2) := by decide +kernel
theorem dX9_takes_121 : decode cX9_takes 121 = .ok (.iload 5, 2) := by decide +kernel
theorem dX9_takes_123 : decode cX9_takes 123 = .ok (.iload_n 3, 1) := by decide +kernel
theorem dX9_takes_124 : decode cX9_takes 124 = .ok (.invokevirtual 75, 3) := by decide +kernel
theorem dX9_takes_127 : decode cX9_takes 127 = .ok (.aload_n 0, 1) := by decide +kernel
theorem dX9_takes_128 : decode cX9_takes 128 = .ok (.iload_n 2, 1) := by decide +kernel
theorem dX9_takes_129 : decode cX9_takes 129 = .ok (.iconst 0, 1) := by decide +kernel
theorem dX9_takes_130 : decode cX9_takes 130 = .ok (.iconst (-1), 1) := by decide +kernel
theorem dX9_takes_131 : decode cX9_takes 131 = .ok (.invokevirtual 56, 3) := by decide +kernel
theorem dX9_takes_134 : decode cX9_takes 134 = .ok (.aload_n 0, 1) := by decide +kernel
theorem dX9_takes_135 : decode cX9_takes 135 = .ok (.getfield 7, 3) := by decide +kernel
theorem dX9_takes_138 : decode cX9_takes 138 = .ok (.sipush 361, 3) := by decide +kernel
theorem dX9_takes_141 : decode cX9_takes 141 = .ok (.dup2, 1) := by decide +kernel
theorem dX9_takes_142 : decode cX9_takes 142 = .ok (.iaload, 1) := by decide +kernel
theorem dX9_takes_143 : decode cX9_takes 143 = .ok (.iconst 1, 1) := by decide +kernel
theorem dX9_takes_144 : decode cX9_takes 144 = .ok (.isub, 1) := by decide +kernel
theorem dX9_takes_145 : decode cX9_takes 145 = .ok (.iastore, 1) := by decide +kernel
theorem dX9_takes_146 : decode cX9_takes 146 = .ok (.iload 4, 2) := by decide +kernel
theorem dX9_takes_148 : decode cX9_takes 148 = .ok (.iconst (-1), 1) := by decide +kernel
theorem dX9_takes_149 : decode cX9_takes 149 = .ok (.if_icmp .eq 69, 3) := by decide +kernel
theorem dX9_takes_152 : decode cX9_takes 152 = .ok (.aload_n 0, 1) := by decide +kernel
theorem dX9_takes_153 : decode cX9_takes 153 = .ok (.iload 4, 2) := by decide +kernel
theorem dX9_takes_155 : decode cX9_takes 155 = .ok (.invokevirtual 116, 3) := by decide +kernel
theorem dX9_takes_158 : decode cX9_takes 158 = .ok (.ifCond .eq 60, 3) := by decide +kernel
theorem dX9_takes_161 : decode cX9_takes 161 = .ok (.aload_n 0, 1) := by decide +kernel
theorem dX9_takes_162 : decode cX9_takes 162 = .ok (.iload 4, 2) := by decide +kernel
theorem dX9_takes_164 : decode cX9_takes 164 = .ok (.iconst 2, 1) := by decide +kernel
theorem dX9_takes_165 : decode cX9_takes 165 = .ok (.invokevirtual 63, 3) := by decide +kernel
theorem dX9_takes_168 : decode cX9_takes 168 = .ok (.iconst 1, 1) := by decide +kernel
theorem dX9_takes_169 : decode cX9_takes 169 = .ok (.if_icmp .ne 49, 3) := by decide +kernel
theorem dX9_takes_172 : decode cX9_takes 172 = .ok (.aload_n 0, 1) := by decide +kernel
theorem dX9_takes_173 : decode cX9_takes 173 = .ok (.iload 4, 2) := by decide +kernel
theorem dX9_takes_175 : decode cX9_takes 175 = .ok (.iconst (-1), 1) := by decide +kernel
theorem dX9_takes_176 : decode cX9_takes 176 = .ok (.invokevirtual 103, 3) := by decide +kernel
theorem dX9_takes_179 : decode cX9_takes 179 = .ok (.aload_n 0, 1) := by decide +kernel
