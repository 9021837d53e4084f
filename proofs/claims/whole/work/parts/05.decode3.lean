theorem dX6_isRight_59 : decode cX6_isRight 59 = .ok (.ifCond .eq 7, 3) := by decide +kernel
theorem dX6_isRight_62 : decode cX6_isRight 62 = .ok (.iconst 1, 1) := by decide +kernel
theorem dX6_isRight_63 : decode cX6_isRight 63 = .ok (.goto 4, 3) := by decide +kernel
theorem dX6_isRight_66 : decode cX6_isRight 66 = .ok (.iconst 0, 1) := by decide +kernel
theorem dX6_isRight_67 : decode cX6_isRight 67 = .ok (.ireturn, 1) := by decide +kernel
theorem dX7_init_0 : decode cX7_init 0 = .ok (.aload_n 0, 1) := by decide +kernel
theorem dX7_init_1 : decode cX7_init 1 = .ok (.invokespecial 3, 3) := by decide +kernel
theorem dX7_init_4 : decode cX7_init 4 = .ok (.aload_n 0, 1) := by decide +kernel
theorem dX7_init_5 : decode cX7_init 5 = .ok (.new 9, 3) := by decide +kernel
theorem dX7_init_8 : decode cX7_init 8 = .ok (.dup, 1) := by decide +kernel
theorem dX7_init_9 : decode cX7_init 9 = .ok (.invokespecial 11, 3) := by decide +kernel
theorem dX7_init_12 : decode cX7_init 12 = .ok (.putfield 12, 3) := by decide +kernel
theorem dX7_init_15 : decode cX7_init 15 = .ok (.aload_n 0, 1) := by decide +kernel
theorem dX7_init_16 : decode cX7_init 16 = .ok (.new 18, 3) := by decide +kernel
theorem dX7_init_19 : decode cX7_init 19 = .ok (.dup, 1) := by decide +kernel
theorem dX7_init_20 : decode cX7_init 20 = .ok (.invokespecial 20, 3) := by decide +kernel
theorem dX7_init_23 : decode cX7_init 23 = .ok (.putfield 21, 3) := by decide +kernel
theorem dX7_init_26 : decode cX7_init 26 = .ok (.aload_n 0, 1) := by decide +kernel
theorem dX7_init_27 : decode cX7_init 27 = .ok (.new 18, 3) := by decide +kernel
theorem dX7_init_30 : decode cX7_init 30 = .ok (.dup, 1) := by decide +kernel
theorem dX7_init_31 : decode cX7_init 31 = .ok (.invokespecial 20, 3) := by decide +kernel
theorem dX7_init_34 : decode cX7_init 34 = .ok (.putfield 25, 3) := by decide +kernel
theorem dX7_init_37 : decode cX7_init 37 = .ok (.return_, 1) := by decide +kernel
theorem dX7_copyFrom_0 : decode cX7_copyFrom 0 = .ok (.aload_n 0, 1) := by decide +kernel
theorem dX7_copyFrom_1 : decode cX7_copyFrom 1 = .ok (.getfield 12, 3) := by decide +kernel
theorem dX7_copyFrom_4 : decode cX7_copyFrom 4 = .ok (.aload_n 1, 1) := by decide +kernel
theorem dX7_copyFrom_5 : decode cX7_copyFrom 5 = .ok (.getfield 12, 3) := by decide +kernel
theorem dX7_copyFrom_8 : decode cX7_copyFrom 8 = .ok (.invokevirtual 28, 3) := by decide +kernel
theorem dX7_copyFrom_11 : decode cX7_copyFrom 11 = .ok (.aload_n 0, 1) := by decide +kernel
theorem dX7_copyFrom_12 : decode cX7_copyFrom 12 = .ok (.getfield 21, 3) := by decide +kernel
theorem dX7_copyFrom_15 : decode cX7_copyFrom 15 = .ok (.aload_n 1, 1) := by decide +kernel
theorem dX7_copyFrom_16 : decode cX7_copyFrom 16 = .ok (.getfield 21, 3) := by decide +kernel
theorem dX7_copyFrom_19 : decode cX7_copyFrom 19 = .ok (.invokevirtual 32, 3) := by decide +kernel
theorem dX7_copyFrom_22 : decode cX7_copyFrom 22 = .ok (.aload_n 0, 1) := by decide +kernel
theorem dX7_copyFrom_23 : decode cX7_copyFrom 23 = .ok (.getfield 25, 3) := by decide +kernel
theorem dX7_copyFrom_26 : decode cX7_copyFrom 26 = .ok (.aload_n 1, 1) := by decide +kernel
theorem dX7_copyFrom_27 : decode cX7_copyFrom 27 = .ok (.getfield 25, 3) := by decide +kernel
theorem dX7_copyFrom_30 : decode cX7_copyFrom 30 = .ok (.invokevirtual 32, 3) := by decide +kernel
theorem dX7_copyFrom_33 : decode cX7_copyFrom 33 = .ok (.return_, 1) := by decide +kernel
theorem dX7_add_0 : decode cX7_add 0 = .ok (.aload_n 0, 1) := by decide +kernel
theorem dX7_add_1 : decode cX7_add 1 = .ok (.getfield 25, 3) := by decide +kernel
theorem dX7_add_4 : decode cX7_add 4 = .ok (.invokevirtual 35, 3) := by decide +kernel
theorem dX7_add_7 : decode cX7_add 7 = .ok (.aload_n 0, 1) := by decide +kernel
theorem dX7_add_8 : decode cX7_add 8 = .ok (.aload_n 0, 1) := by decide +kernel
theorem dX7_add_9 : decode cX7_add 9 = .ok (.getfield 12, 3) := by decide +kernel
theorem dX7_add_12 : decode cX7_add 12 = .ok (.iload_n 1, 1) := by decide +kernel
theorem dX7_add_13 : decode cX7_add 13 = .ok (.iload_n 2, 1) := by decide +kernel
theorem dX7_add_14 : decode cX7_add 14 = .ok (.invokevirtual 38, 3) := by decide +kernel
theorem dX7_add_17 : decode cX7_add 17 = .ok (.invokevirtual 42, 3) := by decide +kernel
theorem dX7_add_20 : decode cX7_add 20 = .ok (.aload_n 0, 1) := by decide +kernel
theorem dX7_add_21 : decode cX7_add 21 = .ok (.getfield 21, 3) := by decide +kernel
theorem dX7_add_24 : decode cX7_add 24 = .ok (.aload_n 0, 1) := by decide +kernel
theorem dX7_add_25 : decode cX7_add 25 = .ok (.getfield 25, 3) := by decide +kernel
theorem dX7_add_28 : decode cX7_add 28 = .ok (.invokevirtual 46, 3) := by decide +kernel
theorem dX7_add_31 : decode cX7_add 31 = .ok (.return_, 1) := by decide +kernel
theorem dX7_remove_0 : decode cX7_remove 0 = .ok (.iload_n 1, 1) := by decide +kernel
theorem dX7_remove_1 : decode cX7_remove 1 = .ok (.iconst (-1), 1) := by decide +kernel
theorem dX7_remove_2 : decode cX7_remove 2 = .ok (.if_icmp .ne 4, 3) := by decide +kernel
theorem dX7_remove_5 : decode cX7_remove 5 = .ok (.return_, 1) := by decide +kernel
theorem dX7_remove_6 : decode cX7_remove 6 = .ok (.aload_n 0, 1) := by decide +kernel
theorem dX7_remove_7 : decode cX7_remove 7 = .ok (.getfield 25, 3) := by decide +kernel
theorem dX7_remove_10 : decode cX7_remove 10 = .ok (.invokevirtual 35, 3) := by decide +kernel
theorem dX7_remove_13 : decode cX7_remove 13 = .ok (.iload_n 1, 1) := by decide +kernel
theorem dX7_remove_14 : decode cX7_remove 14 = .ok (.istore_n 2, 1) := by decide +kernel
theorem dX7_remove_15 : decode cX7_remove 15 = .ok (.aload_n 0, 1) := by decide +kernel
theorem dX7_remove_16 : decode cX7_remove 16 = .ok (.getfield 12, 3) := by decide +kernel
theorem dX7_remove_19 : decode cX7_remove 19 = .ok (.iload_n 1, 1) := by decide +kernel
theorem dX7_remove_20 : decode cX7_remove 20 = .ok (.invokevirtual 49, 3) := by decide +kernel
theorem dX7_remove_23 : decode cX7_remove 23 = .ok (.iconst (-1), 1) := by decide +kernel
theorem dX7_remove_24 : decode cX7_remove 24 = .ok (.if_icmp .eq 40, 3) := by decide +kernel
theorem dX7_remove_27 : decode cX7_remove 27 = .ok (.aload_n 0, 1) := by decide +kernel
theorem dX7_remove_28 : decode cX7_remove 28 = .ok (.getfield 12, 3) := by decide +kernel
theorem dX7_remove_31 : decode cX7_remove 31 = .ok (.iload_n 1, 1) := by decide +kernel
theorem dX7_remove_32 : decode cX7_remove 32 = .ok (.invokevirtual 53, 3) := by decide +kernel
theorem dX7_remove_35 : decode cX7_remove 35 = .ok (.iconst (-1), 1) := by decide +kernel
theorem dX7_remove_36 : decode cX7_remove 36 = .ok (.if_icmp .eq 28, 3) := by decide +kernel
theorem dX7_remove_39 : decode cX7_remove 39 = .ok (.aload_n 0, 1) := by decide +kernel
theorem dX7_remove_40 : decode cX7_remove 40 = .ok (.getfield 12, 3) := by decide +kernel
theorem dX7_remove_43 : decode cX7_remove 43 = .ok (.aload_n 0, 1) := by decide +kernel
theorem dX7_remove_44 : decode cX7_remove 44 = .ok (.getfield 12, 3) := by decide +kernel
theorem dX7_remove_47 : decode cX7_remove 47 = .ok (.iload_n 1, 1) := by decide +kernel
theorem dX7_remove_48 : decode cX7_remove 48 = .ok (.invokevirtual 53, 3) := by decide +kernel
theorem dX7_remove_51 : decode cX7_remove 51 = .ok (.invokevirtual 56, 3) := by decide +kernel
theorem dX7_remove_54 : decode cX7_remove 54 = .ok (.istore_n 2, 1) := by decide +kernel
theorem dX7_remove_55 : decode cX7_remove 55 = .ok (.aload_n 0, 1) := by decide +kernel
theorem dX7_remove_56 : decode cX7_remove 56 = .ok (.getfield 12, 3) := by decide +kernel
theorem dX7_remove_59 : decode cX7_remove 59 = .ok (.iload_n 2, 1) := by decide +kernel
theorem dX7_remove_60 : decode cX7_remove 60 = .ok (.iload_n 1, 1) := by decide +kernel
theorem dX7_remove_61 : decode cX7_remove 61 = .ok (.invokevirtual 59, 3) := by decide +kernel
theorem dX7_remove_64 : decode cX7_remove 64 = .ok (.aload_n 0, 1) := by decide +kernel
theorem dX7_remove_65 : decode cX7_remove 65 = .ok (.getfield 12, 3) := by decide +kernel
theorem dX7_remove_68 : decode cX7_remove 68 = .ok (.iload_n 2, 1) := by decide +kernel
theorem dX7_remove_69 : decode cX7_remove 69 = .ok (.invokevirtual 63, 3) := by decide +kernel
theorem dX7_remove_72 : decode cX7_remove 72 = .ok (.istore_n 3, 1) := by decide +kernel
theorem dX7_remove_73 : decode cX7_remove 73 = .ok (.aload_n 0, 1) := by decide +kernel
theorem dX7_remove_74 : decode cX7_remove 74 = .ok (.getfield 12, 3) := by decide +kernel
theorem dX7_remove_77 : decode cX7_remove 77 = .ok (.iload_n 2, 1) := by decide +kernel
theorem dX7_remove_78 : decode cX7_remove 78 = .ok (.invokevirtual 66, 3) := by decide +kernel
theorem dX7_remove_81 : decode cX7_remove 81 = .ok (.istore 4, 2) := by decide +kernel
theorem dX7_remove_83 : decode cX7_remove 83 = .ok (.iload_n 3, 1) := by decide +kernel
theorem dX7_remove_84 : decode cX7_remove 84 = .ok (.iconst (-1), 1) := by decide +kernel
theorem dX7_remove_85 : decode cX7_remove 85 = .ok (.if_icmp .eq 44, 3) := by decide +kernel
theorem dX7_remove_88 : decode cX7_remove 88 = .ok (.aload_n 0, 1) := by decide +kernel
theorem dX7_remove_89 : decode cX7_remove 89 = .ok (.getfield 12, 3) := by decide +kernel
theorem dX7_remove_92 : decode cX7_remove 92 = .ok (.iload_n 3, 1) := by decide +kernel
theorem dX7_remove_93 : decode cX7_remove 93 = .ok (.invokevirtual 69, 3) := by decide +kernel
theorem dX7_remove_96 : decode cX7_remove 96 = .ok (.ifCond .eq 33, 3) := by decide +kernel
theorem dX7_remove_99 : decode cX7_remove 99 = .ok (.aload_n 0, 1) := by decide +kernel
theorem dX7_remove_100 : decode cX7_remove 100 = .ok (.getfield 12, 3) := by decide +kernel
theorem dX7_remove_103 : decode cX7_remove 103 = .ok (.iload_n 3, 1) := by decide +kernel
theorem dX7_remove_104 : decode cX7_remove 104 = .ok (.invokevirtual 73, 3) := by decide +kernel
theorem dX7_remove_107 : decode cX7_remove 107 = .ok (.iconst 1, 1) := by decide +kernel
theorem dX7_remove_108 : decode cX7_remove 108 = .ok (.if_icmp .ne 21, 3) := by decide +kernel
theorem dX7_remove_111 : decode cX7_remove 111 = .ok (.aload_n 0, 1) := by decide +kernel
theorem dX7_remove_112 : decode cX7_remove 112 = .ok (.iload_n 3, 1) := by decide +kernel
theorem dX7_remove_113 : decode cX7_remove 113 = .ok (.invokevirtual 76, 3) := by decide +kernel
theorem dX7_remove_116 : decode cX7_remove 116 = .ok (.iload_n 3, 1) := by decide +kernel
theorem dX7_remove_117 : decode cX7_remove 117 = .ok (.istore 4, 2) := by decide +kernel
theorem dX7_remove_119 : decode cX7_remove 119 = .ok (.aload_n 0, 1) := by decide +kernel
theorem dX7_remove_120 : decode cX7_remove 120 = .ok (.getfield 12, 3) := by decide +kernel
theorem dX7_remove_123 : decode cX7_remove 123 = .ok (.iload 4, 2) := by decide +kernel
theorem dX7_remove_125 : decode cX7_remove 125 = .ok (.invokevirtual 63, 3) := by decide +kernel
theorem dX7_remove_128 : decode cX7_remove 128 = .ok (.istore_n 3, 1) := by decide +kernel
theorem dX7_remove_129 : decode cX7_remove 129 = .ok (.aload_n 0, 1) := by decide +kernel
theorem dX7_remove_130 : decode cX7_remove 130 = .ok (.iload_n 3, 1) := by decide +kernel
theorem dX7_remove_131 : decode cX7_remove 131 = .ok (.iload 4, 2) := by decide +kernel
theorem dX7_remove_133 : decode cX7_remove 133 = .ok (.invokevirtual 79, 3) := by decide +kernel
theorem dX7_remove_136 : decode cX7_remove 136 = .ok (.aload_n 0, 1) := by decide +kernel
theorem dX7_remove_137 : decode cX7_remove 137 = .ok (.getfield 21, 3) := by decide +kernel
theorem dX7_remove_140 : decode cX7_remove 140 = .ok (.aload_n 0, 1) := by decide +kernel
theorem dX7_remove_141 : decode cX7_remove 141 = .ok (.getfield 25, 3) := by decide +kernel
theorem dX7_remove_144 : decode cX7_remove 144 = .ok (.invokevirtual 46, 3) := by decide +kernel
theorem dX7_remove_147 : decode cX7_remove 147 = .ok (.return_, 1) := by decide +kernel
theorem dX7_mendUpwards_0 : decode cX7_mendUpwards 0 = .ok (.iload_n 1, 1) := by decide +kernel
theorem dX7_mendUpwards_1 : decode cX7_mendUpwards 1 = .ok (.istore_n 2, 1) := by decide +kernel
theorem dX7_mendUpwards_2 : decode cX7_mendUpwards 2 = .ok (.aload_n 0, 1) := by decide +kernel
theorem dX7_mendUpwards_3 : decode cX7_mendUpwards 3 = .ok (.getfield 12, 3) := by decide +kernel
theorem dX7_mendUpwards_6 : decode cX7_mendUpwards 6 = .ok (.iload_n 2, 1) := by decide +kernel
theorem dX7_mendUpwards_7 : decode cX7_mendUpwards 7 = .ok (.invokevirtual 63, 3) := by decide +kernel
theorem dX7_mendUpwards_10 : decode cX7_mendUpwards 10 = .ok (.istore_n 3, 1) := by decide +kernel
theorem dX7_mendUpwards_11 : decode cX7_mendUpwards 11 = .ok (.iconst 0, 1) := by decide +kernel
theorem dX7_mendUpwards_12 : decode cX7_mendUpwards 12 = .ok (.istore 4, 2) := by decide +kernel
theorem dX7_mendUpwards_14 : decode cX7_mendUpwards 14 = .ok (.iload 4, 2) := by decide +kernel
theorem dX7_mendUpwards_16 : decode cX7_mendUpwards 16 = .ok (.bipush 60, 2) := by decide +kernel
theorem dX7_mendUpwards_18 : decode cX7_mendUpwards 18 = .ok (.if_icmp .ge 100, 3) := by decide +kernel
theorem dX7_mendUpwards_21 : decode cX7_mendUpwards 21 = .ok (.iload_n 3, 1) := by decide +kernel
theorem dX7_mendUpwards_22 : decode cX7_mendUpwards 22 = .ok (.iconst (-1), 1) := by decide +kernel
theorem dX7_mendUpwards_23 : decode cX7_mendUpwards 23 = .ok (.if_icmp .eq 95, 3) := by decide +kernel
theorem dX7_mendUpwards_26 : decode cX7_mendUpwards 26 = .ok (.aload_n 0, 1) := by decide +kernel
theorem dX7_mendUpwards_27 : decode cX7_mendUpwards 27 = .ok (.getfield 12, 3) := by decide +kernel
theorem dX7_mendUpwards_30 : decode cX7_mendUpwards 30 = .ok (.iload_n 3, 1) := by decide +kernel
theorem dX7_mendUpwards_31 : decode cX7_mendUpwards 31 = .ok (.iload_n 2, 1) := by decide +kernel
theorem dX7_mendUpwards_32 : decode cX7_mendUpwards 32 = .ok (.invokevirtual 82, 3) := by decide +kernel
theorem dX7_mendUpwards_35 : decode cX7_mendUpwards 35 = .ok (.ifCond .ne 83, 3) := by decide +kernel
theorem dX7_mendUpwards_38 : decode cX7_mendUpwards 38 = .ok (.aload_n 0, 1) := by decide +kernel
theorem dX7_mendUpwards_39 : decode cX7_mendUpwards 39 = .ok (.getfield 12, 3) := by decide +kernel
theorem dX7_mendUpwards_42 : decode cX7_mendUpwards 42 = .ok (.iload_n 3, 1) := by decide +kernel
theorem dX7_mendUpwards_43 : decode cX7_mendUpwards 43 = .ok (.invokevirtual 49, 3) := by decide +kernel
theorem dX7_mendUpwards_46 : decode cX7_mendUpwards 46 = .ok (.iload_n 2, 1) := by decide +kernel
theorem dX7_mendUpwards_47 : decode cX7_mendUpwards 47 = .ok (.if_icmp .ne 7, 3) := by decide +kernel
theorem dX7_mendUpwards_50 : decode cX7_mendUpwards 50 = .ok (.iconst 1, 1) := by decide +kernel
theorem dX7_mendUpwards_51 : decode cX7_mendUpwards 51 = .ok (.goto 4, 3) := by decide +kernel
theorem dX7_mendUpwards_54 : decode cX7_mendUpwards 54 = .ok (.iconst 0, 1) := by decide +kernel
theorem dX7_mendUpwards_55 : decode cX7_mendUpwards 55 = .ok (.istore 5, 2) := by decide +kernel
theorem dX7_mendUpwards_57 : decode cX7_mendUpwards 57 = .ok (.aload_n 0, 1) := by decide +kernel
theorem dX7_mendUpwards_58 : decode cX7_mendUpwards 58 = .ok (.getfield 12, 3) := by decide +kernel
theorem dX7_mendUpwards_61 : decode cX7_mendUpwards 61 = .ok (.iload_n 3, 1) := by decide +kernel
theorem dX7_mendUpwards_62 : decode cX7_mendUpwards 62 = .ok (.aload_n 0, 1) := by decide +kernel
theorem dX7_mendUpwards_63 : decode cX7_mendUpwards 63 = .ok (.getfield 12, 3) := by decide +kernel
theorem dX7_mendUpwards_66 : decode cX7_mendUpwards 66 = .ok (.iload_n 3, 1) := by decide +kernel
theorem dX7_mendUpwards_67 : decode cX7_mendUpwards 67 = .ok (.iload 5, 2) := by decide +kernel
theorem dX7_mendUpwards_69 : decode cX7_mendUpwards 69 = .ok (.ifCond .ne 7, 3) := by decide +kernel
theorem dX7_mendUpwards_72 : decode cX7_mendUpwards 72 = .ok (.iconst 1, 1) := by decide +kernel
theorem dX7_mendUpwards_73 : decode cX7_mendUpwards 73 = .ok (.goto 4, 3) := by decide +kernel
theorem dX7_mendUpwards_76 : decode cX7_mendUpwards 76 = .ok (.iconst 0, 1) := by decide +kernel
theorem dX7_mendUpwards_77 : decode cX7_mendUpwards 77 = .ok (.invokevirtual 85, 3) := by decide +kernel
theorem dX7_mendUpwards_80 : decode cX7_mendUpwards 80 = .ok (.invokevirtual 82, 3) := by decide +kernel
theorem dX7_mendUpwards_83 : decode cX7_mendUpwards 83 = .ok (.iconst 1, 1) := by decide +kernel
theorem dX7_mendUpwards_84 : decode cX7_mendUpwards 84 = .ok (.if_icmp .eq 12, 3) := by decide +kernel
theorem dX7_mendUpwards_87 : decode cX7_mendUpwards 87 = .ok (.aload_n 0, 1) := by decide +kernel
theorem dX7_mendUpwards_88 : decode cX7_mendUpwards 88 = .ok (.iload_n 3, 1) := by decide +kernel
theorem dX7_mendUpwards_89 : decode cX7_mendUpwards 89 = .ok (.iload_n 2, 1) := by decide +kernel
theorem dX7_mendUpwards_90 : decode cX7_mendUpwards 90 = .ok (.iload 5, 2) := by decide +kernel
theorem dX7_mendUpwards_92 : decode cX7_mendUpwards 92 = .ok (.invokevirtual 89, 3) := by decide +kernel
theorem dX7_mendUpwards_95 : decode cX7_mendUpwards 95 = .ok (.return_, 1) := by decide +kernel
theorem dX7_mendUpwards_96 : decode cX7_mendUpwards 96 = .ok (.aload_n 0, 1) := by decide +kernel
theorem dX7_mendUpwards_97 : decode cX7_mendUpwards 97 = .ok (.iload_n 3, 1) := by decide +kernel
theorem dX7_mendUpwards_98 : decode cX7_mendUpwards 98 = .ok (.invokevirtual 93, 3) := by decide +kernel
theorem dX7_mendUpwards_101 : decode cX7_mendUpwards 101 = .ok (.iload_n 3, 1) := by decide +kernel
theorem dX7_mendUpwards_102 : decode cX7_mendUpwards 102 = .ok (.istore_n 2, 1) := by decide +kernel
theorem dX7_mendUpwards_103 : decode cX7_mendUpwards 103 = .ok (.aload_n 0, 1) := by decide +kernel
theorem dX7_mendUpwards_104 : decode cX7_mendUpwards 104 = .ok (.getfield 12, 3) := by decide +kernel
theorem dX7_mendUpwards_107 : decode cX7_mendUpwards 107 = .ok (.iload_n 2, 1) := by decide +kernel
theorem dX7_mendUpwards_108 : decode cX7_mendUpwards 108 = .ok (.invokevirtual 63, 3) := by decide +kernel
theorem dX7_mendUpwards_111 : decode cX7_mendUpwards 111 = .ok (.istore_n 3, 1) := by decide +kernel
theorem dX7_mendUpwards_112 : decode cX7_mendUpwards 112 = .ok (.iinc 4 1, 3) := by decide +kernel
theorem dX7_mendUpwards_115 : decode cX7_mendUpwards 115 = .ok (.goto (-101), 3) := by decide +kernel
theorem dX7_mendUpwards_118 : decode cX7_mendUpwards 118 = .ok (.return_, 1) := by decide +kernel
theorem dX7_turnAfterAdding_0 : decode cX7_turnAfterAdding 0 = .ok (.aload_n 0, 1) := by decide +kernel
theorem dX7_turnAfterAdding_1 : decode cX7_turnAfterAdding 1 = .ok (.getfield 12, 3) := by decide +kernel
theorem dX7_turnAfterAdding_4 : decode cX7_turnAfterAdding 4 = .ok (.iload_n 2, 1) := by decide +kernel
theorem dX7_turnAfterAdding_5 : decode cX7_turnAfterAdding 5 = .ok (.iload_n 3, 1) := by decide +kernel
theorem dX7_turnAfterAdding_6 : decode cX7_turnAfterAdding 6 = .ok (.ifCond .ne 7, 3) := by decide +kernel
theorem dX7_turnAfterAdding_9 : decode cX7_turnAfterAdding 9 = .ok (.iconst 1, 1) := by decide +kernel
theorem dX7_turnAfterAdding_10 : decode cX7_turnAfterAdding 10 = .ok (.goto 4, 3) := by decide +kernel
theorem dX7_turnAfterAdding_13 : decode cX7_turnAfterAdding 13 = .ok (.iconst 0, 1) := by decide +kernel
theorem dX7_turnAfterAdding_14 : decode cX7_turnAfterAdding 14 = .ok (.invokevirtual 85, 3) := by decide +kernel
theorem dX7_turnAfterAdding_17 : decode cX7_turnAfterAdding 17 = .ok (.istore 4, 2) := by decide +kernel
theorem dX7_turnAfterAdding_19 : decode cX7_turnAfterAdding 19 = .ok (.aload_n 0, 1) := by decide +kernel
theorem dX7_turnAfterAdding_20 : decode cX7_turnAfterAdding 20 = .ok (.getfield 12, 3) := by decide +kernel
theorem dX7_turnAfterAdding_23 : decode cX7_turnAfterAdding 23 = .ok (.iload_n 2, 1) := by decide +kernel
theorem dX7_turnAfterAdding_24 : decode cX7_turnAfterAdding 24 = .ok (.iload 4, 2) := by decide +kernel
theorem dX7_turnAfterAdding_26 : decode cX7_turnAfterAdding 26 = .ok (.invokevirtual 82, 3) := by decide +kernel
theorem dX7_turnAfterAdding_29 : decode cX7_turnAfterAdding 29 = .ok (.iconst 1, 1) := by decide +kernel
theorem dX7_turnAfterAdding_30 : decode cX7_turnAfterAdding 30 = .ok (.if_icmp .ne 56, 3) := by decide +kernel
theorem dX7_turnAfterAdding_33 : decode cX7_turnAfterAdding 33 = .ok (.aload_n 0, 1) := by decide +kernel
theorem dX7_turnAfterAdding_34 : decode cX7_turnAfterAdding 34 = .ok (.getfield 12, 3) := by decide +kernel
theorem dX7_turnAfterAdding_37 : decode cX7_turnAfterAdding 37 = .ok (.iload 4, 2) := by decide +kernel
theorem dX7_turnAfterAdding_39 : decode cX7_turnAfterAdding 39 = .ok (.invokevirtual 96, 3) := by decide +kernel
theorem dX7_turnAfterAdding_42 : decode cX7_turnAfterAdding 42 = .ok (.aload_n 0, 1) := by decide +kernel
theorem dX7_turnAfterAdding_43 : decode cX7_turnAfterAdding 43 = .ok (.getfield 12, 3) := by decide +kernel
theorem dX7_turnAfterAdding_46 : decode cX7_turnAfterAdding 46 = .ok (.iload 4, 2) := by decide +kernel
theorem dX7_turnAfterAdding_48 : decode cX7_turnAfterAdding 48 = .ok (.invokevirtual 96, 3) := by decide +kernel
theorem dX7_turnAfterAdding_51 : decode cX7_turnAfterAdding 51 = .ok (.aload_n 0, 1) := by decide +kernel
theorem dX7_turnAfterAdding_52 : decode cX7_turnAfterAdding 52 = .ok (.getfield 25, 3) := by decide +kernel
theorem dX7_turnAfterAdding_55 : decode cX7_turnAfterAdding 55 = .ok (.dup, 1) := by decide +kernel
theorem dX7_turnAfterAdding_56 : decode cX7_turnAfterAdding 56 = .ok (.getfield 99, 3) := by decide +kernel
theorem dX7_turnAfterAdding_59 : decode cX7_turnAfterAdding 59 = .ok (.iconst 2, 1) := by decide +kernel
theorem dX7_turnAfterAdding_60 : decode cX7_turnAfterAdding 60 = .ok (.iadd, 1) := by decide +kernel
theorem dX7_turnAfterAdding_61 : decode cX7_turnAfterAdding 61 = .ok (.putfield 99, 3) := by decide +kernel
theorem dX7_turnAfterAdding_64 : decode cX7_turnAfterAdding 64 = .ok (.aload_n 0, 1) := by decide +kernel
theorem dX7_turnAfterAdding_65 : decode cX7_turnAfterAdding 65 = .ok (.getfield 12, 3) := by decide +kernel
theorem dX7_turnAfterAdding_68 : decode cX7_turnAfterAdding 68 = .ok (.iload 4, 2) := by decide +kernel
theorem dX7_turnAfterAdding_70 : decode cX7_turnAfterAdding 70 = .ok (.iconst 1, 1) := by decide +kernel
theorem dX7_turnAfterAdding_71 : decode cX7_turnAfterAdding 71 = .ok (.invokevirtual 103, 3) := by decide +kernel
theorem dX7_turnAfterAdding_74 : decode cX7_turnAfterAdding 74 = .ok (.aload_n 0, 1) := by decide +kernel
theorem dX7_turnAfterAdding_75 : decode cX7_turnAfterAdding 75 = .ok (.getfield 12, 3) := by decide +kernel
theorem dX7_turnAfterAdding_78 : decode cX7_turnAfterAdding 78 = .ok (.iload_n 2, 1) := by decide +kernel
theorem dX7_turnAfterAdding_79 : decode cX7_turnAfterAdding 79 = .ok (.iconst (-1), 1) := by decide +kernel
theorem dX7_turnAfterAdding_80 : decode cX7_turnAfterAdding 80 = .ok (.invokevirtual 103, 3) := by decide +kernel
theorem dX7_turnAfterAdding_83 : decode cX7_turnAfterAdding 83 = .ok (.goto 24, 3) := by decide +kernel
theorem dX7_turnAfterAdding_86 : decode cX7_turnAfterAdding 86 = .ok (.aload_n 0, 1) := by decide +kernel
theorem dX7_turnAfterAdding_87 : decode cX7_turnAfterAdding 87 = .ok (.getfield 12, 3) := by decide +kernel
theorem dX7_turnAfterAdding_90 : decode cX7_turnAfterAdding 90 = .ok (.iload_n 2, 1) := by decide +kernel
theorem dX7_turnAfterAdding_91 : decode cX7_turnAfterAdding 91 = .ok (.invokevirtual 96, 3) := by decide +kernel
theorem dX7_turnAfterAdding_94 : decode cX7_turnAfterAdding 94 = .ok (.aload_n 0, 1) := by decide +kernel
theorem dX7_turnAfterAdding_95 : decode cX7_turnAfterAdding 95 = .ok (.getfield 25, 3) := by decide +kernel
theorem dX7_turnAfterAdding_98 : decode cX7_turnAfterAdding 98 = .ok (.dup, 1) := by decide +kernel
theorem dX7_turnAfterAdding_99 : decode cX7_turnAfterAdding 99 = .ok (.getfield 99, 3) := by decide +kernel
theorem dX7_turnAfterAdding_102 : decode cX7_turnAfterAdding 102 = .ok (.iconst 1, 1) := by decide +kernel
theorem dX7_turnAfterAdding_103 : decode cX7_turnAfterAdding 103 = .ok (.iadd, 1) := by decide +kernel
theorem dX7_turnAfterAdding_104 : decode cX7_turnAfterAdding 104 = .ok (.putfield 99, 3) := by decide +kernel
theorem dX7_turnAfterAdding_107 : decode cX7_turnAfterAdding 107 = .ok (.aload_n 0, 1) := by decide +kernel
theorem dX7_turnAfterAdding_108 : decode cX7_turnAfterAdding 108 = .ok (.getfield 12, 3) := by decide +kernel
theorem dX7_turnAfterAdding_111 : decode cX7_turnAfterAdding 111 = .ok (.iload_n 1, 1) := by decide +kernel
theorem dX7_turnAfterAdding_112 : decode cX7_turnAfterAdding 112 = .ok (.iconst (-1), 1) := by decide +kernel
theorem dX7_turnAfterAdding_113 : decode cX7_turnAfterAdding 113 = .ok (.invokevirtual 103, 3) := by decide +kernel
theorem dX7_turnAfterAdding_116 : decode cX7_turnAfterAdding 116 = .ok (.return_, 1) := by decide +kernel
theorem dX7_mendGap_0 : decode cX7_mendGap 0 = .ok (.iload_n 2, 1) := by decide +kernel
theorem dX7_mendGap_1 : decode cX7_mendGap 1 = .ok (.istore_n 3, 1) := by decide +kernel
theorem dX7_mendGap_2 : decode cX7_mendGap 2 = .ok (.iload_n 1, 1) := by decide +kernel
theorem dX7_mendGap_3 : decode cX7_mendGap 3 = .ok (.istore 4, 2) := by decide +kernel
theorem dX7_mendGap_5 : decode cX7_mendGap 5 = .ok (.iconst 0, 1) := by decide +kernel
theorem dX7_mendGap_6 : decode cX7_mendGap 6 = .ok (.istore 5, 2) := by decide +kernel
theorem dX7_mendGap_8 : decode cX7_mendGap 8 = .ok (.iload 5, 2) := by decide +kernel
theorem dX7_mendGap_10 : decode cX7_mendGap 10 = .ok (.bipush 60, 2) := by decide +kernel
theorem dX7_mendGap_12 : decode cX7_mendGap 12 = .ok (.if_icmp .ge 138, 3) := by decide +kernel
theorem dX7_mendGap_15 : decode cX7_mendGap 15 = .ok (.iload 4, 2) := by decide +kernel
theorem dX7_mendGap_17 : decode cX7_mendGap 17 = .ok (.iconst (-1), 1) := by decide +kernel
theorem dX7_mendGap_18 : decode cX7_mendGap 18 = .ok (.if_icmp .eq 132, 3) := by decide +kernel
theorem dX7_mendGap_21 : decode cX7_mendGap 21 = .ok (.aload_n 0, 1) := by decide +kernel
theorem dX7_mendGap_22 : decode cX7_mendGap 22 = .ok (.getfield 12, 3) := by decide +kernel
theorem dX7_mendGap_25 : decode cX7_mendGap 25 = .ok (.iload 4, 2) := by decide +kernel
theorem dX7_mendGap_27 : decode cX7_mendGap 27 = .ok (.iload_n 3, 1) := by decide +kernel
theorem dX7_mendGap_28 : decode cX7_mendGap 28 = .ok (.invokevirtual 82, 3) := by decide +kernel
theorem dX7_mendGap_31 : decode cX7_mendGap 31 = .ok (.iconst 3, 1) := by decide +kernel
theorem dX7_mendGap_32 : decode cX7_mendGap 32 = .ok (.if_icmp .ne 118, 3) := by decide +kernel
theorem dX7_mendGap_35 : decode cX7_mendGap 35 = .ok (.aload_n 0, 1) := by decide +kernel
theorem dX7_mendGap_36 : decode cX7_mendGap 36 = .ok (.getfield 12, 3) := by decide +kernel
theorem dX7_mendGap_39 : decode cX7_mendGap 39 = .ok (.iload 4, 2) := by decide +kernel
theorem dX7_mendGap_41 : decode cX7_mendGap 41 = .ok (.invokevirtual 49, 3) := by decide +kernel
theorem dX7_mendGap_44 : decode cX7_mendGap 44 = .ok (.iload_n 3, 1) := by decide +kernel
theorem dX7_mendGap_45 : decode cX7_mendGap 45 = .ok (.if_icmp .ne 7, 3) := by decide +kernel
theorem dX7_mendGap_48 : decode cX7_mendGap 48 = .ok (.iconst 1, 1) := by decide +kernel
theorem dX7_mendGap_49 : decode cX7_mendGap 49 = .ok (.goto 4, 3) := by decide +kernel
theorem dX7_mendGap_52 : decode cX7_mendGap 52 = .ok (.iconst 0, 1) := by decide +kernel
theorem dX7_mendGap_53 : decode cX7_mendGap 53 = .ok (.istore 6, 2) := by decide +kernel
theorem dX7_mendGap_55 : decode cX7_mendGap 55 = .ok (.aload_n 0, 1) := by decide +kernel
theorem dX7_mendGap_56 : decode cX7_mendGap 56 = .ok (.getfield 12, 3) := by decide +kernel
theorem dX7_mendGap_59 : decode cX7_mendGap 59 = .ok (.iload 4, 2) := by decide +kernel
theorem dX7_mendGap_61 : decode cX7_mendGap 61 = .ok (.iload 6, 2) := by decide +kernel
theorem dX7_mendGap_63 : decode cX7_mendGap 63 = .ok (.ifCond .ne 7, 3) := by decide +kernel
theorem dX7_mendGap_66 : decode cX7_mendGap 66 = .ok (.iconst 1, 1) := by decide +kernel
theorem dX7_mendGap_67 : decode cX7_mendGap 67 = .ok (.goto 4, 3) := by decide +kernel
theorem dX7_mendGap_70 : decode cX7_mendGap 70 = .ok (.iconst 0, 1) := by decide +kernel
theorem dX7_mendGap_71 : decode cX7_mendGap 71 = .ok (.invokevirtual 85, 3) := by decide +kernel
theorem dX7_mendGap_74 : decode cX7_mendGap 74 = .ok (.istore 7, 2) := by decide +kernel
theorem dX7_mendGap_76 : decode cX7_mendGap 76 = .ok (.aload_n 0, 1) := by decide +kernel
theorem dX7_mendGap_77 : decode cX7_mendGap 77 = .ok (.getfield 12, 3) := by decide +kernel
theorem dX7_mendGap_80 : decode cX7_mendGap 80 = .ok (.iload 4, 2) := by decide +kernel
theorem dX7_mendGap_82 : decode cX7_mendGap 82 = .ok (.iload 7, 2) := by decide +kernel
theorem dX7_mendGap_84 : decode cX7_mendGap 84 = .ok (.invokevirtual 82, 3) := by decide +kernel
theorem dX7_mendGap_87 : decode cX7_mendGap 87 = .ok (.iconst 2, 1) := by decide +kernel
theorem dX7_mendGap_88 : decode cX7_mendGap 88 = .ok (.if_icmp .eq 37, 3) := by decide +kernel
theorem dX7_mendGap_91 : decode cX7_mendGap 91 = .ok (.aload_n 0, 1) := by decide +kernel
theorem dX7_mendGap_92 : decode cX7_mendGap 92 = .ok (.iload 7, 2) := by decide +kernel
theorem dX7_mendGap_94 : decode cX7_mendGap 94 = .ok (.invokevirtual 106, 3) := by decide +kernel
theorem dX7_mendGap_97 : decode cX7_mendGap 97 = .ok (.ifCond .ne 22, 3) := by decide +kernel
theorem dX7_mendGap_100 : decode cX7_mendGap 100 = .ok (.aload_n 0, 1) := by decide +kernel
theorem dX7_mendGap_101 : decode cX7_mendGap 101 = .ok (.iload 4, 2) := by decide +kernel
theorem dX7_mendGap_103 : decode cX7_mendGap 103 = .ok (.iload 7, 2) := by decide +kernel
theorem dX7_mendGap_105 : decode cX7_mendGap 105 = .ok (.iload 6, 2) := by decide +kernel
theorem dX7_mendGap_107 : decode cX7_mendGap 107 = .ok (.ifCond .ne 7, 3) := by decide +kernel
theorem dX7_mendGap_110 : decode cX7_mendGap 110 = .ok (.iconst 1, 1) := by decide +kernel
theorem dX7_mendGap_111 : decode cX7_mendGap 111 = .ok (.goto 4, 3) := by decide +kernel
theorem dX7_mendGap_114 : decode cX7_mendGap 114 = .ok (.iconst 0, 1) := by decide +kernel
theorem dX7_mendGap_115 : decode cX7_mendGap 115 = .ok (.invokevirtual 109, 3) := by decide +kernel
theorem dX7_mendGap_118 : decode cX7_mendGap 118 = .ok (.return_, 1) := by decide +kernel
theorem dX7_mendGap_119 : decode cX7_mendGap 119 = .ok (.aload_n 0, 1) := by decide +kernel
theorem dX7_mendGap_120 : decode cX7_mendGap 120 = .ok (.iload 7, 2) := by decide +kernel
theorem dX7_mendGap_122 : decode cX7_mendGap 122 = .ok (.invokevirtual 76, 3) := by decide +kernel
theorem dX7_mendGap_125 : decode cX7_mendGap 125 = .ok (.aload_n 0, 1) := by decide +kernel
theorem dX7_mendGap_126 : decode cX7_mendGap 126 = .ok (.iload 4, 2) := by decide +kernel
theorem dX7_mendGap_128 : decode cX7_mendGap 128 = .ok (.invokevirtual 76, 3) := by decide +kernel
theorem dX7_mendGap_131 : decode cX7_mendGap 131 = .ok (.iload 4, 2) := by decide +kernel
theorem dX7_mendGap_133 : decode cX7_mendGap 133 = .ok (.istore_n 3, 1) := by decide +kernel
theorem dX7_mendGap_134 : decode cX7_mendGap 134 = .ok (.aload_n 0, 1) := by decide +kernel
theorem dX7_mendGap_135 : decode cX7_mendGap 135 = .ok (.getfield 12, 3) := by decide +kernel
theorem dX7_mendGap_138 : decode cX7_mendGap 138 = .ok (.iload_n 3, 1) := by decide +kernel
theorem dX7_mendGap_139 : decode cX7_mendGap 139 = .ok (.invokevirtual 63, 3) := by decide +kernel
theorem dX7_mendGap_142 : decode cX7_mendGap 142 = .ok (.istore 4, 2) := by decide +kernel
theorem dX7_mendGap_144 : decode cX7_mendGap 144 = .ok (.iinc 5 1, 3) := by decide +kernel
theorem dX7_mendGap_147 : decode cX7_mendGap 147 = .ok (.goto (-139), 3) := by decide +kernel
theorem dX7_mendGap_150 : decode cX7_mendGap 150 = .ok (.return_, 1) := by decide +kernel
theorem dX7_hasOnlyLongSteps_0 : decode cX7_hasOnlyLongSteps 0 = .ok (.aload_n 0, 1) := by decide +kernel
theorem dX7_hasOnlyLongSteps_1 : decode cX7_hasOnlyLongSteps 1 = .ok (.getfield 12, 3) := by decide +kernel
theorem dX7_hasOnlyLongSteps_4 : decode cX7_hasOnlyLongSteps 4 = .ok (.iload_n 1, 1) := by decide +kernel
theorem dX7_hasOnlyLongSteps_5 : decode cX7_hasOnlyLongSteps 5 = .ok (.aload_n 0, 1) := by decide +kernel
theorem dX7_hasOnlyLongSteps_6 : decode cX7_hasOnlyLongSteps 6 = .ok (.getfield 12, 3) := by decide +kernel
theorem dX7_hasOnlyLongSteps_9 : decode cX7_hasOnlyLongSteps 9 = .ok (.iload_n 1, 1) := by decide +kernel
theorem dX7_hasOnlyLongSteps_10 : decode cX7_hasOnlyLongSteps 10 = .ok (.invokevirtual 49, 3) := by decide +kernel
theorem dX7_hasOnlyLongSteps_13 : decode cX7_hasOnlyLongSteps 13 = .ok (.invokevirtual 82, 3) := by decide +kernel
theorem dX7_hasOnlyLongSteps_16 : decode cX7_hasOnlyLongSteps 16 = .ok (.iconst 2, 1) := by decide +kernel
theorem dX7_hasOnlyLongSteps_17 : decode cX7_hasOnlyLongSteps 17 = .ok (.if_icmp .ne 27, 3) := by decide +kernel
theorem dX7_hasOnlyLongSteps_20 : decode cX7_hasOnlyLongSteps 20 = .ok (.aload_n 0, 1) := by decide +kernel
theorem dX7_hasOnlyLongSteps_21 : decode cX7_hasOnlyLongSteps 21 = .ok (.getfield 12, 3) := by decide +kernel
theorem dX7_hasOnlyLongSteps_24 : decode cX7_hasOnlyLongSteps 24 = .ok (.iload_n 1, 1) := by decide +kernel
theorem dX7_hasOnlyLongSteps_25 : decode cX7_hasOnlyLongSteps 25 = .ok (.aload_n 0, 1) := by decide +kernel
theorem dX7_hasOnlyLongSteps_26 : decode cX7_hasOnlyLongSteps 26 = .ok (.getfield 12, 3) := by decide +kernel
theorem dX7_hasOnlyLongSteps_29 : decode cX7_hasOnlyLongSteps 29 = .ok (.iload_n 1, 1) := by decide +kernel
theorem dX7_hasOnlyLongSteps_30 : decode cX7_hasOnlyLongSteps 30 = .ok (.invokevirtual 53, 3) := by decide +kernel
theorem dX7_hasOnlyLongSteps_33 : decode cX7_hasOnlyLongSteps 33 = .ok (.invokevirtual 82, 3) := by decide +kernel
theorem dX7_hasOnlyLongSteps_36 : decode cX7_hasOnlyLongSteps 36 = .ok (.iconst 2, 1) := by decide +kernel
theorem dX7_hasOnlyLongSteps_37 : decode cX7_hasOnlyLongSteps 37 = .ok (.if_icmp .ne 7, 3) := by decide +kernel
theorem dX7_hasOnlyLongSteps_40 : decode cX7_hasOnlyLongSteps 40 = .ok (.iconst 1, 1) := by decide +kernel
theorem dX7_hasOnlyLongSteps_41 : decode cX7_hasOnlyLongSteps 41 = .ok (.goto 4, 3) := by decide +kernel
theorem dX7_hasOnlyLongSteps_44 : decode cX7_hasOnlyLongSteps 44 = .ok (.iconst 0, 1) := by decide +kernel
theorem dX7_hasOnlyLongSteps_45 : decode cX7_hasOnlyLongSteps 45 = .ok (.ireturn, 1) := by decide +kernel
theorem dX7_turnAfterRemoving_0 : decode cX7_turnAfterRemoving 0 = .ok (.aload_n 0, 1) := by decide +kernel
theorem dX7_turnAfterRemoving_1 : decode cX7_turnAfterRemoving 1 = .ok (.getfield 12, 3) := by decide +kernel
theorem dX7_turnAfterRemoving_4 : decode cX7_turnAfterRemoving 4 = .ok (.iload_n 2, 1) := by decide +kernel
theorem dX7_turnAfterRemoving_5 : decode cX7_turnAfterRemoving 5 = .ok (.aload_n 0, 1) := by decide +kernel
theorem dX7_turnAfterRemoving_6 : decode cX7_turnAfterRemoving 6 = .ok (.getfield 12, 3) := by decide +kernel
theorem dX7_turnAfterRemoving_9 : decode cX7_turnAfterRemoving 9 = .ok (.iload_n 2, 1) := by decide +kernel
theorem dX7_turnAfterRemoving_10 : decode cX7_turnAfterRemoving 10 = .ok (.iload_n 3, 1) := by decide +kernel
theorem dX7_turnAfterRemoving_11 : decode cX7_turnAfterRemoving 11 = .ok (.invokevirtual 85, 3) := by decide +kernel
theorem dX7_turnAfterRemoving_14 : decode cX7_turnAfterRemoving 14 = .ok (.invokevirtual 82, 3) := by decide +kernel
theorem dX7_turnAfterRemoving_17 : decode cX7_turnAfterRemoving 17 = .ok (.iconst 1, 1) := by decide +kernel
theorem dX7_turnAfterRemoving_18 : decode cX7_turnAfterRemoving 18 = .ok (.if_icmp .ne 59, 3) := by decide +kernel
theorem dX7_turnAfterRemoving_21 : decode cX7_turnAfterRemoving 21 = .ok (.aload_n 0, 1) := by decide +kernel
theorem dX7_turnAfterRemoving_22 : decode cX7_turnAfterRemoving 22 = .ok (.getfield 12, 3) := by decide +kernel
theorem dX7_turnAfterRemoving_25 : decode cX7_turnAfterRemoving 25 = .ok (.iload_n 2, 1) := by decide +kernel
theorem dX7_turnAfterRemoving_26 : decode cX7_turnAfterRemoving 26 = .ok (.invokevirtual 96, 3) := by decide +kernel
theorem dX7_turnAfterRemoving_29 : decode cX7_turnAfterRemoving 29 = .ok (.aload_n 0, 1) := by decide +kernel
theorem dX7_turnAfterRemoving_30 : decode cX7_turnAfterRemoving 30 = .ok (.getfield 25, 3) := by decide +kernel
theorem dX7_turnAfterRemoving_33 : decode cX7_turnAfterRemoving 33 = .ok (.dup, 1) := by decide +kernel
theorem dX7_turnAfterRemoving_34 : decode cX7_turnAfterRemoving 34 = .ok (.getfield 99, 3) := by decide +kernel
theorem dX7_turnAfterRemoving_37 : decode cX7_turnAfterRemoving 37 = .ok (.iconst 1, 1) := by decide +kernel
theorem dX7_turnAfterRemoving_38 : decode cX7_turnAfterRemoving 38 = .ok (.iadd, 1) := by decide +kernel
theorem dX7_turnAfterRemoving_39 : decode cX7_turnAfterRemoving 39 = .ok (.putfield 99, 3) := by decide +kernel
theorem dX7_turnAfterRemoving_42 : decode cX7_turnAfterRemoving 42 = .ok (.aload_n 0, 1) := by decide +kernel
theorem dX7_turnAfterRemoving_43 : decode cX7_turnAfterRemoving 43 = .ok (.getfield 12, 3) := by decide +kernel
theorem dX7_turnAfterRemoving_46 : decode cX7_turnAfterRemoving 46 = .ok (.iload_n 2, 1) := by decide +kernel
theorem dX7_turnAfterRemoving_47 : decode cX7_turnAfterRemoving 47 = .ok (.iconst 1, 1) := by decide +kernel
theorem dX7_turnAfterRemoving_48 : decode cX7_turnAfterRemoving 48 = .ok (.invokevirtual 103, 3) := by decide +kernel
theorem dX7_turnAfterRemoving_51 : decode cX7_turnAfterRemoving 51 = .ok (.aload_n 0, 1) := by decide +kernel
theorem dX7_turnAfterRemoving_52 : decode cX7_turnAfterRemoving 52 = .ok (.getfield 12, 3) := by decide +kernel
theorem dX7_turnAfterRemoving_55 : decode cX7_turnAfterRemoving 55 = .ok (.iload_n 1, 1) := by decide +kernel
theorem dX7_turnAfterRemoving_56 : decode cX7_turnAfterRemoving 56 = .ok (.aload_n 0, 1) := by decide +kernel
theorem dX7_turnAfterRemoving_57 : decode cX7_turnAfterRemoving 57 = .ok (.getfield 12, 3) := by decide +kernel
theorem dX7_turnAfterRemoving_60 : decode cX7_turnAfterRemoving 60 = .ok (.iload_n 1, 1) := by decide +kernel
theorem dX7_turnAfterRemoving_61 : decode cX7_turnAfterRemoving 61 = .ok (.invokevirtual 69, 3) := by decide +kernel
theorem dX7_turnAfterRemoving_64 : decode cX7_turnAfterRemoving 64 = .ok (.ifCond .eq 8, 3) := by decide +kernel
theorem dX7_turnAfterRemoving_67 : decode cX7_turnAfterRemoving 67 = .ok (.bipush (-2), 2) := by decide +kernel
theorem dX7_turnAfterRemoving_69 : decode cX7_turnAfterRemoving 69 = .ok (.goto 4, 3) := by decide +kernel
theorem dX7_turnAfterRemoving_72 : decode cX7_turnAfterRemoving 72 = .ok (.iconst (-1), 1) := by decide +kernel
theorem dX7_turnAfterRemoving_73 : decode cX7_turnAfterRemoving 73 = .ok (.invokevirtual 103, 3) := by decide +kernel
theorem dX7_turnAfterRemoving_76 : decode cX7_turnAfterRemoving 76 = .ok (.return_, 1) := by decide +kernel
theorem dX7_turnAfterRemoving_77 : decode cX7_turnAfterRemoving 77 = .ok (.aload_n 0, 1) := by decide +kernel
theorem dX7_turnAfterRemoving_78 : decode cX7_turnAfterRemoving 78 = .ok (.getfield 12, 3) := by decide +kernel
theorem dX7_turnAfterRemoving_81 : decode cX7_turnAfterRemoving 81 = .ok (.iload_n 2, 1) := by decide +kernel
theorem dX7_turnAfterRemoving_82 : decode cX7_turnAfterRemoving 82 = .ok (.iload_n 3, 1) := by decide +kernel
theorem dX7_turnAfterRemoving_83 : decode cX7_turnAfterRemoving 83 = .ok (.ifCond .ne 7, 3) := by decide +kernel
theorem dX7_turnAfterRemoving_86 : decode cX7_turnAfterRemoving 86 = .ok (.iconst 1, 1) := by decide +kernel
theorem dX7_turnAfterRemoving_87 : decode cX7_turnAfterRemoving 87 = .ok (.goto 4, 3) := by decide +kernel
theorem dX7_turnAfterRemoving_90 : decode cX7_turnAfterRemoving 90 = .ok (.iconst 0, 1) := by decide +kernel
theorem dX7_turnAfterRemoving_91 : decode cX7_turnAfterRemoving 91 = .ok (.invokevirtual 85, 3) := by decide +kernel
theorem dX7_turnAfterRemoving_94 : decode cX7_turnAfterRemoving 94 = .ok (.istore 4, 2) := by decide +kernel
theorem dX7_turnAfterRemoving_96 : decode cX7_turnAfterRemoving 96 = .ok (.aload_n 0, 1) := by decide +kernel
theorem dX7_turnAfterRemoving_97 : decode cX7_turnAfterRemoving 97 = .ok (.getfield 12, 3) := by decide +kernel
theorem dX7_turnAfterRemoving_100 : decode cX7_turnAfterRemoving 100 = .ok (.iload 4, 2) := by decide +kernel
theorem dX7_turnAfterRemoving_102 : decode cX7_turnAfterRemoving 102 = .ok (.invokevirtual 96, 3) := by decide +kernel
theorem dX7_turnAfterRemoving_105 : decode cX7_turnAfterRemoving 105 = .ok (.aload_n 0, 1) := by decide +kernel
theorem dX7_turnAfterRemoving_106 : decode cX7_turnAfterRemoving 106 = .ok (.getfield 12, 3) := by decide +kernel
theorem dX7_turnAfterRemoving_109 : decode cX7_turnAfterRemoving 109 = .ok (.iload 4, 2) := by decide +kernel
theorem dX7_turnAfterRemoving_111 : decode cX7_turnAfterRemoving 111 = .ok (.invokevirtual 96, 3) := by decide +kernel
theorem dX7_turnAfterRemoving_114 : decode cX7_turnAfterRemoving 114 = .ok (.aload_n 0, 1) := by decide +kernel
theorem dX7_turnAfterRemoving_115 : decode cX7_turnAfterRemoving 115 = .ok (.getfield 25, 3) := by decide +kernel
theorem dX7_turnAfterRemoving_118 : decode cX7_turnAfterRemoving 118 = .ok (.dup, 1) := by decide +kernel
theorem dX7_turnAfterRemoving_119 : decode cX7_turnAfterRemoving 119 = .ok (.getfield 99, 3) := by decide +kernel
theorem dX7_turnAfterRemoving_122 : decode cX7_turnAfterRemoving 122 = .ok (.iconst 2, 1) := by decide +kernel
theorem dX7_turnAfterRemoving_123 : decode cX7_turnAfterRemoving 123 = .ok (.iadd, 1) := by decide +kernel
theorem dX7_turnAfterRemoving_124 : decode cX7_turnAfterRemoving 124 = .ok (.putfield 99, 3) := by decide +kernel
theorem dX7_turnAfterRemoving_127 : decode cX7_turnAfterRemoving 127 = .ok (.aload_n 0, 1) := by decide +kernel
theorem dX7_turnAfterRemoving_128 : decode cX7_turnAfterRemoving 128 = .ok (.getfield 12, 3) := by decide +kernel
theorem dX7_turnAfterRemoving_131 : decode cX7_turnAfterRemoving 131 = .ok (.iload 4, 2) := by decide +kernel
theorem dX7_turnAfterRemoving_133 : decode cX7_turnAfterRemoving 133 = .ok (.iconst 2, 1) := by decide +kernel
theorem dX7_turnAfterRemoving_134 : decode cX7_turnAfterRemoving 134 = .ok (.invokevirtual 103, 3) := by decide +kernel
theorem dX7_turnAfterRemoving_137 : decode cX7_turnAfterRemoving 137 = .ok (.aload_n 0, 1) := by decide +kernel
theorem dX7_turnAfterRemoving_138 : decode cX7_turnAfterRemoving 138 = .ok (.getfield 12, 3) := by decide +kernel
theorem dX7_turnAfterRemoving_141 : decode cX7_turnAfterRemoving 141 = .ok (.iload_n 2, 1) := by decide +kernel
theorem dX7_turnAfterRemoving_142 : decode cX7_turnAfterRemoving 142 = .ok (.iconst (-1), 1) := by decide +kernel
theorem dX7_turnAfterRemoving_143 : decode cX7_turnAfterRemoving 143 = .ok (.invokevirtual 103, 3) := by decide +kernel
theorem dX7_turnAfterRemoving_146 : decode cX7_turnAfterRemoving 146 = .ok (.aload_n 0, 1) := by decide +kernel
theorem dX7_turnAfterRemoving_147 : decode cX7_turnAfterRemoving 147 = .ok (.getfield 12, 3) := by decide +kernel
theorem dX7_turnAfterRemoving_150 : decode cX7_turnAfterRemoving 150 = .ok (.iload_n 1, 1) := by decide +kernel
theorem dX7_turnAfterRemoving_151 : decode cX7_turnAfterRemoving 151 = .ok (.bipush (-2), 2) := by decide +kernel
theorem dX7_turnAfterRemoving_153 : decode cX7_turnAfterRemoving 153 = .ok (.invokevirtual 103, 3) := by decide +kernel
theorem dX7_turnAfterRemoving_156 : decode cX7_turnAfterRemoving 156 = .ok (.return_, 1) := by decide +kernel
theorem dX7_promote_0 : decode cX7_promote 0 = .ok (.aload_n 0, 1) := by decide +kernel
theorem dX7_promote_1 : decode cX7_promote 1 = .ok (.getfield 12, 3) := by decide +kernel
theorem dX7_promote_4 : decode cX7_promote 4 = .ok (.iload_n 1, 1) := by decide +kernel
theorem dX7_promote_5 : decode cX7_promote 5 = .ok (.iconst 1, 1) := by decide +kernel
theorem dX7_promote_6 : decode cX7_promote 6 = .ok (.invokevirtual 103, 3) := by decide +kernel
theorem dX7_promote_9 : decode cX7_promote 9 = .ok (.aload_n 0, 1) := by decide +kernel
theorem dX7_promote_10 : decode cX7_promote 10 = .ok (.getfield 25, 3) := by decide +kernel
theorem dX7_promote_13 : decode cX7_promote 13 = .ok (.dup, 1) := by decide +kernel
theorem dX7_promote_14 : decode cX7_promote 14 = .ok (.getfield 112, 3) := by decide +kernel
theorem dX7_promote_17 : decode cX7_promote 17 = .ok (.iconst 1, 1) := by decide +kernel
theorem dX7_promote_18 : decode cX7_promote 18 = .ok (.iadd, 1) := by decide +kernel
theorem dX7_promote_19 : decode cX7_promote 19 = .ok (.putfield 112, 3) := by decide +kernel
theorem dX7_promote_22 : decode cX7_promote 22 = .ok (.return_, 1) := by decide +kernel
theorem dX7_demote_0 : decode cX7_demote 0 = .ok (.aload_n 0, 1) := by decide +kernel
theorem dX7_demote_1 : decode cX7_demote 1 = .ok (.getfield 12, 3) := by decide +kernel
theorem dX7_demote_4 : decode cX7_demote 4 = .ok (.iload_n 1, 1) := by decide +kernel
theorem dX7_demote_5 : decode cX7_demote 5 = .ok (.iconst (-1), 1) := by decide +kernel
theorem dX7_demote_6 : decode cX7_demote 6 = .ok (.invokevirtual 103, 3) := by decide +kernel
theorem dX7_demote_9 : decode cX7_demote 9 = .ok (.aload_n 0, 1) := by decide +kernel
theorem dX7_demote_10 : decode cX7_demote 10 = .ok (.getfield 25, 3) := by decide +kernel
theorem dX7_demote_13 : decode cX7_demote 13 = .ok (.dup, 1) := by decide +kernel
theorem dX7_demote_14 : decode cX7_demote 14 = .ok (.getfield 115, 3) := by decide +kernel
theorem dX7_demote_17 : decode cX7_demote 17 = .ok (.iconst 1, 1) := by decide +kernel
theorem dX7_demote_18 : decode cX7_demote 18 = .ok (.iadd, 1) := by decide +kernel
theorem dX7_demote_19 : decode cX7_demote 19 = .ok (.putfield 115, 3) := by decide +kernel
theorem dX7_demote_22 : decode cX7_demote 22 = .ok (.return_, 1) := by decide +kernel
theorem dX8_init_0 : decode cX8_init 0 = .ok (.aload_n 0, 1) := by decide +kernel
theorem dX8_init_1 : decode cX8_init 1 = .ok (.invokespecial 1, 3) := by decide +kernel
theorem dX8_init_4 : decode cX8_init 4 = .ok (.aload_n 0, 1) := by decide +kernel
theorem dX8_init_5 : decode cX8_init 5 = .ok (.new 7, 3) := by decide +kernel
theorem dX8_init_8 : decode cX8_init 8 = .ok (.dup, 1) := by decide +kernel
theorem dX8_init_9 : decode cX8_init 9 = .ok (.invokespecial 9, 3) := by decide +kernel
theorem dX8_init_12 : decode cX8_init 12 = .ok (.putfield 10, 3) := by decide +kernel
theorem dX8_init_15 : decode cX8_init 15 = .ok (.aload_n 0, 1) := by decide +kernel
theorem dX8_init_16 : decode cX8_init 16 = .ok (.new 7, 3) := by decide +kernel
theorem dX8_init_19 : decode cX8_init 19 = .ok (.dup, 1) := by decide +kernel
theorem dX8_init_20 : decode cX8_init 20 = .ok (.invokespecial 9, 3) := by decide +kernel
theorem dX8_init_23 : decode cX8_init 23 = .ok (.putfield 16, 3) := by decide +kernel
theorem dX8_init_26 : decode cX8_init 26 = .ok (.aload_n 0, 1) := by decide +kernel
theorem dX8_init_27 : decode cX8_init 27 = .ok (.new 19, 3) := by decide +kernel
theorem dX8_init_30 : decode cX8_init 30 = .ok (.dup, 1) := by decide +kernel
theorem dX8_init_31 : decode cX8_init 31 = .ok (.invokespecial 21, 3) := by decide +kernel
theorem dX8_init_34 : decode cX8_init 34 = .ok (.putfield 22, 3) := by decide +kernel
theorem dX8_init_37 : decode cX8_init 37 = .ok (.aload_n 0, 1) := by decide +kernel
theorem dX8_init_38 : decode cX8_init 38 = .ok (.new 26, 3) := by decide +kernel
theorem dX8_init_41 : decode cX8_init 41 = .ok (.dup, 1) := by decide +kernel
theorem dX8_init_42 : decode cX8_init 42 = .ok (.invokespecial 28, 3) := by decide +kernel
theorem dX8_init_45 : decode cX8_init 45 = .ok (.putfield 29, 3) := by decide +kernel
theorem dX8_init_48 : decode cX8_init 48 = .ok (.aload_n 0, 1) := by decide +kernel
theorem dX8_init_49 : decode cX8_init 49 = .ok (.iconst 2, 1) := by decide +kernel
theorem dX8_init_50 : decode cX8_init 50 = .ok (.anewarray 33, 3) := by decide +kernel
theorem dX8_init_53 : decode cX8_init 53 = .ok (.putfield 35, 3) := by decide +kernel
theorem dX8_init_56 : decode cX8_init 56 = .ok (.iconst 0, 1) := by decide +kernel
theorem dX8_init_57 : decode cX8_init 57 = .ok (.istore_n 1, 1) := by decide +kernel
theorem dX8_init_58 : decode cX8_init 58 = .ok (.iload_n 1, 1) := by decide +kernel
theorem dX8_init_59 : decode cX8_init 59 = .ok (.iconst 2, 1) := by decide +kernel
theorem dX8_init_60 : decode cX8_init 60 = .ok (.if_icmp .ge 22, 3) := by decide +kernel
theorem dX8_init_63 : decode cX8_init 63 = .ok (.aload_n 0, 1) := by decide +kernel
theorem dX8_init_64 : decode cX8_init 64 = .ok (.getfield 35, 3) := by decide +kernel
theorem dX8_init_67 : decode cX8_init 67 = .ok (.iload_n 1, 1) := by decide +kernel
theorem dX8_init_68 : decode cX8_init 68 = .ok (.new 33, 3) := by decide +kernel
theorem dX8_init_71 : decode cX8_init 71 = .ok (.dup, 1) := by decide +kernel
theorem dX8_init_72 : decode cX8_init 72 = .ok (.invokespecial 39, 3) := by decide +kernel
theorem dX8_init_75 : decode cX8_init 75 = .ok (.aastore, 1) := by decide +kernel
theorem dX8_init_76 : decode cX8_init 76 = .ok (.iinc 1 1, 3) := by decide +kernel
theorem dX8_init_79 : decode cX8_init 79 = .ok (.goto (-21), 3) := by decide +kernel
theorem dX8_init_82 : decode cX8_init 82 = .ok (.return_, 1) := by decide +kernel
theorem dX8_told_0 : decode cX8_told 0 = .ok (.aload_n 0, 1) := by decide +kernel
theorem dX8_told_1 : decode cX8_told 1 = .ok (.getfield 10, 3) := by decide +kernel
theorem dX8_told_4 : decode cX8_told 4 = .ok (.getfield 40, 3) := by decide +kernel
theorem dX8_told_7 : decode cX8_told 7 = .ok (.astore_n 2, 1) := by decide +kernel
theorem dX8_told_8 : decode cX8_told 8 = .ok (.iload_n 1, 1) := by decide +kernel
theorem dX8_told_9 : decode cX8_told 9 = .ok (.tableswitch 236 0 16 #[83, 88, 97, 118, 123, 131, 142, 153, 164, 175, 186, 197, 202, 207, 212, 220, 228], 83) := by decide +kernel
theorem dX8_told_92 : decode cX8_told 92 = .ok (.aload_n 2, 1) := by decide +kernel
theorem dX8_told_93 : decode cX8_told 93 = .ok (.getfield 44, 3) := by decide +kernel
theorem dX8_told_96 : decode cX8_told 96 = .ok (.ireturn, 1) := by decide +kernel
theorem dX8_told_97 : decode cX8_told 97 = .ok (.aload_n 2, 1) := by decide +kernel
theorem dX8_told_98 : decode cX8_told 98 = .ok (.aload_n 2, 1) := by decide +kernel
theorem dX8_told_99 : decode cX8_told 99 = .ok (.getfield 50, 3) := by decide +kernel
theorem dX8_told_102 : decode cX8_told 102 = .ok (.invokevirtual 53, 3) := by decide +kernel
theorem dX8_told_105 : decode cX8_told 105 = .ok (.ireturn, 1) := by decide +kernel
theorem dX8_told_106 : decode cX8_told 106 = .ok (.aload_n 2, 1) := by decide +kernel
theorem dX8_told_107 : decode cX8_told 107 = .ok (.getfield 50, 3) := by decide +kernel
theorem dX8_told_110 : decode cX8_told 110 = .ok (.iconst (-1), 1) := by decide +kernel
theorem dX8_told_111 : decode cX8_told 111 = .ok (.if_icmp .ne 7, 3) := by decide +kernel
theorem dX8_told_114 : decode cX8_told 114 = .ok (.iconst (-1), 1) := by decide +kernel
theorem dX8_told_115 : decode cX8_told 115 = .ok (.goto 11, 3) := by decide +kernel
theorem dX8_told_118 : decode cX8_told 118 = .ok (.aload_n 2, 1) := by decide +kernel
theorem dX8_told_119 : decode cX8_told 119 = .ok (.aload_n 2, 1) := by decide +kernel
theorem dX8_told_120 : decode cX8_told 120 = .ok (.getfield 50, 3) := by decide +kernel
theorem dX8_told_123 : decode cX8_told 123 = .ok (.invokevirtual 57, 3) := by decide +kernel
theorem dX8_told_126 : decode cX8_told 126 = .ok (.ireturn, 1) := by decide +kernel
theorem dX8_told_127 : decode cX8_told 127 = .ok (.aload_n 2, 1) := by decide +kernel
theorem dX8_told_128 : decode cX8_told 128 = .ok (.invokestatic 60, 3) := by decide +kernel
theorem dX8_told_131 : decode cX8_told 131 = .ok (.ireturn, 1) := by decide +kernel
theorem dX8_told_132 : decode cX8_told 132 = .ok (.aload_n 2, 1) := by decide +kernel
theorem dX8_told_133 : decode cX8_told 133 = .ok (.iconst 0, 1) := by decide +kernel
theorem dX8_told_134 : decode cX8_told 134 = .ok (.ldc 66, 2) := by decide +kernel
theorem dX8_told_136 : decode cX8_told 136 = .ok (.invokestatic 67, 3) := by decide +kernel
theorem dX8_told_139 : decode cX8_told 139 = .ok (.ireturn, 1) := by decide +kernel
theorem dX8_told_140 : decode cX8_told 140 = .ok (.aload_n 0, 1) := by decide +kernel
theorem dX8_told_141 : decode cX8_told 141 = .ok (.getfield 10, 3) := by decide +kernel
theorem dX8_told_144 : decode cX8_told 144 = .ok (.getfield 71, 3) := by decide +kernel
theorem dX8_told_147 : decode cX8_told 147 = .ok (.getfield 75, 3) := by decide +kernel
theorem dX8_told_150 : decode cX8_told 150 = .ok (.ireturn, 1) := by decide +kernel
theorem dX8_told_151 : decode cX8_told 151 = .ok (.aload_n 0, 1) := by decide +kernel
theorem dX8_told_152 : decode cX8_told 152 = .ok (.getfield 10, 3) := by decide +kernel
theorem dX8_told_155 : decode cX8_told 155 = .ok (.getfield 71, 3) := by decide +kernel
theorem dX8_told_158 : decode cX8_told 158 = .ok (.getfield 80, 3) := by decide +kernel
theorem dX8_told_161 : decode cX8_told 161 = .ok (.ireturn, 1) := by decide +kernel
theorem dX8_told_162 : decode cX8_told 162 = .ok (.aload_n 0, 1) := by decide +kernel
theorem dX8_told_163 : decode cX8_told 163 = .ok (.getfield 10, 3) := by decide +kernel
theorem dX8_told_166 : decode cX8_told 166 = .ok (.getfield 71, 3) := by decide +kernel
theorem dX8_told_169 : decode cX8_told 169 = .ok (.getfield 83, 3) := by decide +kernel
theorem dX8_told_172 : decode cX8_told 172 = .ok (.ireturn, 1) := by decide +kernel
theorem dX8_told_173 : decode cX8_told 173 = .ok (.aload_n 0, 1) := by decide +kernel
theorem dX8_told_174 : decode cX8_told 174 = .ok (.getfield 10, 3) := by decide +kernel
theorem dX8_told_177 : decode cX8_told 177 = .ok (.getfield 86, 3) := by decide +kernel
theorem dX8_told_180 : decode cX8_told 180 = .ok (.getfield 75, 3) := by decide +kernel
theorem dX8_told_183 : decode cX8_told 183 = .ok (.ireturn, 1) := by decide +kernel
theorem dX8_told_184 : decode cX8_told 184 = .ok (.aload_n 0, 1) := by decide +kernel
theorem dX8_told_185 : decode cX8_told 185 = .ok (.getfield 10, 3) := by decide +kernel
theorem dX8_told_188 : decode cX8_told 188 = .ok (.getfield 86, 3) := by decide +kernel
theorem dX8_told_191 : decode cX8_told 191 = .ok (.getfield 80, 3) := by decide +kernel
theorem dX8_told_194 : decode cX8_told 194 = .ok (.ireturn, 1) := by decide +kernel
theorem dX8_told_195 : decode cX8_told 195 = .ok (.aload_n 0, 1) := by decide +kernel
theorem dX8_told_196 : decode cX8_told 196 = .ok (.getfield 10, 3) := by decide +kernel
theorem dX8_told_199 : decode cX8_told 199 = .ok (.getfield 86, 3) := by decide +kernel
theorem dX8_told_202 : decode cX8_told 202 = .ok (.getfield 83, 3) := by decide +kernel
theorem dX8_told_205 : decode cX8_told 205 = .ok (.ireturn, 1) := by decide +kernel
theorem dX8_told_206 : decode cX8_told 206 = .ok (.aload_n 2, 1) := by decide +kernel
theorem dX8_told_207 : decode cX8_told 207 = .ok (.invokestatic 89, 3) := by decide +kernel
theorem dX8_told_210 : decode cX8_told 210 = .ok (.ireturn, 1) := by decide +kernel
theorem dX8_told_211 : decode cX8_told 211 = .ok (.aload_n 2, 1) := by decide +kernel
theorem dX8_told_212 : decode cX8_told 212 = .ok (.invokestatic 92, 3) := by decide +kernel
theorem dX8_told_215 : decode cX8_told 215 = .ok (.ireturn, 1) := by decide +kernel
theorem dX8_told_216 : decode cX8_told 216 = .ok (.aload_n 0, 1) := by decide +kernel
theorem dX8_told_217 : decode cX8_told 217 = .ok (.invokevirtual 95, 3) := by decide +kernel
theorem dX8_told_220 : decode cX8_told 220 = .ok (.ireturn, 1) := by decide +kernel
theorem dX8_told_221 : decode cX8_told 221 = .ok (.aload_n 2, 1) := by decide +kernel
theorem dX8_told_222 : decode cX8_told 222 = .ok (.getfield 44, 3) := by decide +kernel
theorem dX8_told_225 : decode cX8_told 225 = .ok (.invokestatic 99, 3) := by decide +kernel
theorem dX8_told_228 : decode cX8_told 228 = .ok (.ireturn, 1) := by decide +kernel
theorem dX8_told_229 : decode cX8_told 229 = .ok (.aload_n 2, 1) := by decide +kernel
theorem dX8_told_230 : decode cX8_told 230 = .ok (.getfield 44, 3) := by decide +kernel
theorem dX8_told_233 : decode cX8_told 233 = .ok (.invokestatic 104, 3) := by decide +kernel
theorem dX8_told_236 : decode cX8_told 236 = .ok (.ireturn, 1) := by decide +kernel
theorem dX8_told_237 : decode cX8_told 237 = .ok (.aload_n 0, 1) := by decide +kernel
theorem dX8_told_238 : decode cX8_told 238 = .ok (.getfield 22, 3) := by decide +kernel
theorem dX8_told_241 : decode cX8_told 241 = .ok (.getfield 107, 3) := by decide +kernel
theorem dX8_told_244 : decode cX8_told 244 = .ok (.ireturn, 1) := by decide +kernel
theorem dX8_told_245 : decode cX8_told 245 = .ok (.ldc 110, 2) := by decide +kernel
theorem dX8_told_247 : decode cX8_told 247 = .ok (.ireturn, 1) := by decide +kernel
theorem dX8_node_0 : decode cX8_node 0 = .ok (.aload_n 0, 1) := by decide +kernel
theorem dX8_node_1 : decode cX8_node 1 = .ok (.getfield 10, 3) := by decide +kernel
theorem dX8_node_4 : decode cX8_node 4 = .ok (.getfield 40, 3) := by decide +kernel
theorem dX8_node_7 : decode cX8_node 7 = .ok (.astore_n 3, 1) := by decide +kernel
theorem dX8_node_8 : decode cX8_node 8 = .ok (.aload_n 3, 1) := by decide +kernel
theorem dX8_node_9 : decode cX8_node 9 = .ok (.iload_n 1, 1) := by decide +kernel
theorem dX8_node_10 : decode cX8_node 10 = .ok (.invokevirtual 111, 3) := by decide +kernel
theorem dX8_node_13 : decode cX8_node 13 = .ok (.istore 4, 2) := by decide +kernel
theorem dX8_node_15 : decode cX8_node 15 = .ok (.iload 4, 2) := by decide +kernel
theorem dX8_node_17 : decode cX8_node 17 = .ok (.iconst (-1), 1) := by decide +kernel
theorem dX8_node_18 : decode cX8_node 18 = .ok (.if_icmp .ne 6, 3) := by decide +kernel
theorem dX8_node_21 : decode cX8_node 21 = .ok (.ldc 114, 2) := by decide +kernel
theorem dX8_node_23 : decode cX8_node 23 = .ok (.ireturn, 1) := by decide +kernel
theorem dX8_node_24 : decode cX8_node 24 = .ok (.iload_n 2, 1) := by decide +kernel
theorem dX8_node_25 : decode cX8_node 25 = .ok (.tableswitch 119 0 6 #[43, 50, 57, 64, 75, 86, 93], 43) := by decide +kernel
theorem dX8_node_68 : decode cX8_node 68 = .ok (.aload_n 3, 1) := by decide +kernel
theorem dX8_node_69 : decode cX8_node 69 = .ok (.iload 4, 2) := by decide +kernel
theorem dX8_node_71 : decode cX8_node 71 = .ok (.invokevirtual 53, 3) := by decide +kernel
theorem dX8_node_74 : decode cX8_node 74 = .ok (.ireturn, 1) := by decide +kernel
theorem dX8_node_75 : decode cX8_node 75 = .ok (.aload_n 3, 1) := by decide +kernel
theorem dX8_node_76 : decode cX8_node 76 = .ok (.iload 4, 2) := by decide +kernel
theorem dX8_node_78 : decode cX8_node 78 = .ok (.invokevirtual 57, 3) := by decide +kernel
theorem dX8_node_81 : decode cX8_node 81 = .ok (.ireturn, 1) := by decide +kernel
theorem dX8_node_82 : decode cX8_node 82 = .ok (.aload_n 3, 1) := by decide +kernel
theorem dX8_node_83 : decode cX8_node 83 = .ok (.iload 4, 2) := by decide +kernel
theorem dX8_node_85 : decode cX8_node 85 = .ok (.invokevirtual 115, 3) := by decide +kernel
theorem dX8_node_88 : decode cX8_node 88 = .ok (.ireturn, 1) := by decide +kernel
theorem dX8_node_89 : decode cX8_node 89 = .ok (.aload_n 3, 1) := by decide +kernel
theorem dX8_node_90 : decode cX8_node 90 = .ok (.aload_n 3, 1) := by decide +kernel
theorem dX8_node_91 : decode cX8_node 91 = .ok (.iload 4, 2) := by decide +kernel
theorem dX8_node_93 : decode cX8_node 93 = .ok (.invokevirtual 118, 3) := by decide +kernel
theorem dX8_node_96 : decode cX8_node 96 = .ok (.invokevirtual 121, 3) := by decide +kernel
theorem dX8_node_99 : decode cX8_node 99 = .ok (.ireturn, 1) := by decide +kernel
theorem dX8_node_100 : decode cX8_node 100 = .ok (.aload_n 3, 1) := by decide +kernel
theorem dX8_node_101 : decode cX8_node 101 = .ok (.aload_n 3, 1) := by decide +kernel
theorem dX8_node_102 : decode cX8_node 102 = .ok (.iload 4, 2) := by decide +kernel
theorem dX8_node_104 : decode cX8_node 104 = .ok (.invokevirtual 124, 3) := by decide +kernel
theorem dX8_node_107 : decode cX8_node 107 = .ok (.invokevirtual 121, 3) := by decide +kernel
theorem dX8_node_110 : decode cX8_node 110 = .ok (.ireturn, 1) := by decide +kernel
theorem dX8_node_111 : decode cX8_node 111 = .ok (.aload_n 3, 1) := by decide +kernel
theorem dX8_node_112 : decode cX8_node 112 = .ok (.iload 4, 2) := by decide +kernel
theorem dX8_node_114 : decode cX8_node 114 = .ok (.invokestatic 127, 3) := by decide +kernel
theorem dX8_node_117 : decode cX8_node 117 = .ok (.ireturn, 1) := by decide +kernel
theorem dX8_node_118 : decode cX8_node 118 = .ok (.iload 4, 2) := by decide +kernel
theorem dX8_node_120 : decode cX8_node 120 = .ok (.aload_n 3, 1) := by decide +kernel
theorem dX8_node_121 : decode cX8_node 121 = .ok (.getfield 50, 3) := by decide +kernel
theorem dX8_node_124 : decode cX8_node 124 = .ok (.if_icmp .ne 7, 3) := by decide +kernel
theorem dX8_node_127 : decode cX8_node 127 = .ok (.iconst (-1), 1) := by decide +kernel
theorem dX8_node_128 : decode cX8_node 128 = .ok (.goto 15, 3) := by decide +kernel
theorem dX8_node_131 : decode cX8_node 131 = .ok (.aload_n 3, 1) := by decide +kernel
theorem dX8_node_132 : decode cX8_node 132 = .ok (.aload_n 3, 1) := by decide +kernel
theorem dX8_node_133 : decode cX8_node 133 = .ok (.iload 4, 2) := by decide +kernel
theorem dX8_node_135 : decode cX8_node 135 = .ok (.invokevirtual 131, 3) := by decide +kernel
theorem dX8_node_138 : decode cX8_node 138 = .ok (.iload 4, 2) := by decide +kernel
theorem dX8_node_140 : decode cX8_node 140 = .ok (.invokevirtual 134, 3) := by decide +kernel
theorem dX8_node_143 : decode cX8_node 143 = .ok (.ireturn, 1) := by decide +kernel
theorem dX8_node_144 : decode cX8_node 144 = .ok (.ldc 110, 2) := by decide +kernel
theorem dX8_node_146 : decode cX8_node 146 = .ok (.ireturn, 1) := by decide +kernel
theorem dX8_key_0 : decode cX8_key 0 = .ok (.aload_n 0, 1) := by decide +kernel
theorem dX8_key_1 : decode cX8_key 1 = .ok (.getfield 10, 3) := by decide +kernel
theorem dX8_key_4 : decode cX8_key 4 = .ok (.getfield 40, 3) := by decide +kernel
theorem dX8_key_7 : decode cX8_key 7 = .ok (.astore_n 3, 1) := by decide +kernel
theorem dX8_key_8 : decode cX8_key 8 = .ok (.aload_n 3, 1) := by decide +kernel
theorem dX8_key_9 : decode cX8_key 9 = .ok (.iload_n 1, 1) := by decide +kernel
theorem dX8_key_10 : decode cX8_key 10 = .ok (.invokevirtual 138, 3) := by decide +kernel
theorem dX8_key_13 : decode cX8_key 13 = .ok (.istore 4, 2) := by decide +kernel
theorem dX8_key_15 : decode cX8_key 15 = .ok (.iload 4, 2) := by decide +kernel
theorem dX8_key_17 : decode cX8_key 17 = .ok (.iconst (-1), 1) := by decide +kernel
theorem dX8_key_18 : decode cX8_key 18 = .ok (.if_icmp .ne 6, 3) := by decide +kernel
theorem dX8_key_21 : decode cX8_key 21 = .ok (.ldc 114, 2) := by decide +kernel
theorem dX8_key_23 : decode cX8_key 23 = .ok (.ireturn, 1) := by decide +kernel
theorem dX8_key_24 : decode cX8_key 24 = .ok (.iload_n 2, 1) := by decide +kernel
theorem dX8_key_25 : decode cX8_key 25 = .ok (.tableswitch 47 0 2 #[27, 34, 41], 27) := by decide +kernel
theorem dX8_key_52 : decode cX8_key 52 = .ok (.aload_n 3, 1) := by decide +kernel
theorem dX8_key_53 : decode cX8_key 53 = .ok (.iload 4, 2) := by decide +kernel
theorem dX8_key_55 : decode cX8_key 55 = .ok (.invokevirtual 141, 3) := by decide +kernel
theorem dX8_key_58 : decode cX8_key 58 = .ok (.ireturn, 1) := by decide +kernel
theorem dX8_key_59 : decode cX8_key 59 = .ok (.aload_n 3, 1) := by decide +kernel
theorem dX8_key_60 : decode cX8_key 60 = .ok (.iload 4, 2) := by decide +kernel
theorem dX8_key_62 : decode cX8_key 62 = .ok (.invokevirtual 121, 3) := by decide +kernel
theorem dX8_key_65 : decode cX8_key 65 = .ok (.ireturn, 1) := by decide +kernel
theorem dX8_key_66 : decode cX8_key 66 = .ok (.aload_n 3, 1) := by decide +kernel
theorem dX8_key_67 : decode cX8_key 67 = .ok (.iload_n 1, 1) := by decide +kernel
theorem dX8_key_68 : decode cX8_key 68 = .ok (.invokestatic 144, 3) := by decide +kernel
theorem dX8_key_71 : decode cX8_key 71 = .ok (.ireturn, 1) := by decide +kernel
theorem dX8_key_72 : decode cX8_key 72 = .ok (.ldc 110, 2) := by decide +kernel
theorem dX8_key_74 : decode cX8_key 74 = .ok (.ireturn, 1) := by decide +kernel
theorem dX8_at_0 : decode cX8_at 0 = .ok (.aload_n 0, 1) := by decide +kernel
theorem dX8_at_1 : decode cX8_at 1 = .ok (.getfield 10, 3) := by decide +kernel
theorem dX8_at_4 : decode cX8_at 4 = .ok (.getfield 40, 3) := by decide +kernel
theorem dX8_at_7 : decode cX8_at 7 = .ok (.astore_n 2, 1) := by decide +kernel
theorem dX8_at_8 : decode cX8_at 8 = .ok (.iload_n 1, 1) := by decide +kernel
theorem dX8_at_9 : decode cX8_at 9 = .ok (.ifCond .lt 11, 3) := by decide +kernel
theorem dX8_at_12 : decode cX8_at 12 = .ok (.iload_n 1, 1) := by decide +kernel
theorem dX8_at_13 : decode cX8_at 13 = .ok (.aload_n 2, 1) := by decide +kernel
theorem dX8_at_14 : decode cX8_at 14 = .ok (.getfield 44, 3) := by decide +kernel
theorem dX8_at_17 : decode cX8_at 17 = .ok (.if_icmp .lt 5, 3) := by decide +kernel
theorem dX8_at_20 : decode cX8_at 20 = .ok (.iconst (-1), 1) := by decide +kernel
theorem dX8_at_21 : decode cX8_at 21 = .ok (.ireturn, 1) := by decide +kernel
theorem dX8_at_22 : decode cX8_at 22 = .ok (.aload_n 2, 1) := by decide +kernel
theorem dX8_at_23 : decode cX8_at 23 = .ok (.aload_n 2, 1) := by decide +kernel
theorem dX8_at_24 : decode cX8_at 24 = .ok (.getfield 50, 3) := by decide +kernel
theorem dX8_at_27 : decode cX8_at 27 = .ok (.invokevirtual 147, 3) := by decide +kernel
theorem dX8_at_30 : decode cX8_at 30 = .ok (.istore_n 3, 1) := by decide +kernel
theorem dX8_at_31 : decode cX8_at 31 = .ok (.iconst 0, 1) := by decide +kernel
theorem dX8_at_32 : decode cX8_at 32 = .ok (.istore 4, 2) := by decide +kernel
theorem dX8_at_34 : decode cX8_at 34 = .ok (.iload 4, 2) := by decide +kernel
theorem dX8_at_36 : decode cX8_at 36 = .ok (.iload_n 1, 1) := by decide +kernel
