theorem dX9_takes_180 : decode cX9_takes 180 = .ok (.iconst 1, 1) := by decide +kernel
theorem dX9_takes_181 : decode cX9_takes 181 = .ok (.invokevirtual 79, 3) := by decide +kernel
theorem dX9_takes_184 : decode cX9_takes 184 = .ok (.iload 4, 2) := by decide +kernel
theorem dX9_takes_186 : decode cX9_takes 186 = .ok (.istore_n 3, 1) := by decide +kernel
theorem dX9_takes_187 : decode cX9_takes 187 = .ok (.aload_n 0, 1) := by decide +kernel
theorem dX9_takes_188 : decode cX9_takes 188 = .ok (.iload_n 3, 1) := by decide +kernel
theorem dX9_takes_189 : decode cX9_takes 189 = .ok (.iconst 5, 1) := by decide +kernel
theorem dX9_takes_190 : decode cX9_takes 190 = .ok (.invokevirtual 63, 3) := by decide +kernel
theorem dX9_takes_193 : decode cX9_takes 193 = .ok (.istore 4, 2) := by decide +kernel
theorem dX9_takes_195 : decode cX9_takes 195 = .ok (.iload 4, 2) := by decide +kernel
theorem dX9_takes_197 : decode cX9_takes 197 = .ok (.iconst (-1), 1) := by decide +kernel
theorem dX9_takes_198 : decode cX9_takes 198 = .ok (.if_icmp .eq 17, 3) := by decide +kernel
theorem dX9_takes_201 : decode cX9_takes 201 = .ok (.aload_n 0, 1) := by decide +kernel
theorem dX9_takes_202 : decode cX9_takes 202 = .ok (.iload 4, 2) := by decide +kernel
theorem dX9_takes_204 : decode cX9_takes 204 = .ok (.iload_n 3, 1) := by decide +kernel
theorem dX9_takes_205 : decode cX9_takes 205 = .ok (.invokevirtual 67, 3) := by decide +kernel
theorem dX9_takes_208 : decode cX9_takes 208 = .ok (.ifCond .eq 7, 3) := by decide +kernel
theorem dX9_takes_211 : decode cX9_takes 211 = .ok (.iconst 1, 1) := by decide +kernel
theorem dX9_takes_212 : decode cX9_takes 212 = .ok (.goto 4, 3) := by decide +kernel
theorem dX9_takes_215 : decode cX9_takes 215 = .ok (.iconst 0, 1) := by decide +kernel
theorem dX9_takes_216 : decode cX9_takes 216 = .ok (.istore 5, 2) := by decide +kernel
theorem dX9_takes_218 : decode cX9_takes 218 = .ok (.aload_n 0, 1) := by decide +kernel
theorem dX9_takes_219 : decode cX9_takes 219 = .ok (.iload 4, 2) := by decide +kernel
theorem dX9_takes_221 : decode cX9_takes 221 = .ok (.iload 5, 2) := by decide +kernel
theorem dX9_takes_223 : decode cX9_takes 223 = .ok (.invokevirtual 120, 3) := by decide +kernel
theorem dX9_takes_226 : decode cX9_takes 226 = .ok (.return_, 1) := by decide +kernel
theorem dX9_falls_0 : decode cX9_falls 0 = .ok (.iload_n 1, 1) := by decide +kernel
theorem dX9_falls_1 : decode cX9_falls 1 = .ok (.istore_n 3, 1) := by decide +kernel
theorem dX9_falls_2 : decode cX9_falls 2 = .ok (.iload_n 2, 1) := by decide +kernel
theorem dX9_falls_3 : decode cX9_falls 3 = .ok (.istore 4, 2) := by decide +kernel
theorem dX9_falls_5 : decode cX9_falls 5 = .ok (.iload_n 3, 1) := by decide +kernel
theorem dX9_falls_6 : decode cX9_falls 6 = .ok (.iconst (-1), 1) := by decide +kernel
theorem dX9_falls_7 : decode cX9_falls 7 = .ok (.if_icmp .eq 183, 3) := by decide +kernel
theorem dX9_falls_10 : decode cX9_falls 10 = .ok (.aload_n 0, 1) := by decide +kernel
theorem dX9_falls_11 : decode cX9_falls 11 = .ok (.iload_n 3, 1) := by decide +kernel
theorem dX9_falls_12 : decode cX9_falls 12 = .ok (.aload_n 0, 1) := by decide +kernel
theorem dX9_falls_13 : decode cX9_falls 13 = .ok (.iload_n 3, 1) := by decide +kernel
theorem dX9_falls_14 : decode cX9_falls 14 = .ok (.iload 4, 2) := by decide +kernel
theorem dX9_falls_16 : decode cX9_falls 16 = .ok (.invokevirtual 71, 3) := by decide +kernel
theorem dX9_falls_19 : decode cX9_falls 19 = .ok (.invokevirtual 100, 3) := by decide +kernel
theorem dX9_falls_22 : decode cX9_falls 22 = .ok (.iconst 3, 1) := by decide +kernel
theorem dX9_falls_23 : decode cX9_falls 23 = .ok (.if_icmp .ne 167, 3) := by decide +kernel
theorem dX9_falls_26 : decode cX9_falls 26 = .ok (.aload_n 0, 1) := by decide +kernel
theorem dX9_falls_27 : decode cX9_falls 27 = .ok (.iload_n 3, 1) := by decide +kernel
theorem dX9_falls_28 : decode cX9_falls 28 = .ok (.iload 4, 2) := by decide +kernel
theorem dX9_falls_30 : decode cX9_falls 30 = .ok (.ifCond .ne 7, 3) := by decide +kernel
theorem dX9_falls_33 : decode cX9_falls 33 = .ok (.iconst 1, 1) := by decide +kernel
theorem dX9_falls_34 : decode cX9_falls 34 = .ok (.goto 4, 3) := by decide +kernel
theorem dX9_falls_37 : decode cX9_falls 37 = .ok (.iconst 0, 1) := by decide +kernel
theorem dX9_falls_38 : decode cX9_falls 38 = .ok (.invokevirtual 71, 3) := by decide +kernel
theorem dX9_falls_41 : decode cX9_falls 41 = .ok (.istore 5, 2) := by decide +kernel
theorem dX9_falls_43 : decode cX9_falls 43 = .ok (.aload_n 0, 1) := by decide +kernel
theorem dX9_falls_44 : decode cX9_falls 44 = .ok (.iload_n 3, 1) := by decide +kernel
theorem dX9_falls_45 : decode cX9_falls 45 = .ok (.iload 5, 2) := by decide +kernel
theorem dX9_falls_47 : decode cX9_falls 47 = .ok (.invokevirtual 100, 3) := by decide +kernel
theorem dX9_falls_50 : decode cX9_falls 50 = .ok (.iconst 1, 1) := by decide +kernel
theorem dX9_falls_51 : decode cX9_falls 51 = .ok (.if_icmp .ne 41, 3) := by decide +kernel
theorem dX9_falls_54 : decode cX9_falls 54 = .ok (.aload_n 0, 1) := by decide +kernel
theorem dX9_falls_55 : decode cX9_falls 55 = .ok (.iload 5, 2) := by decide +kernel
theorem dX9_falls_57 : decode cX9_falls 57 = .ok (.aload_n 0, 1) := by decide +kernel
theorem dX9_falls_58 : decode cX9_falls 58 = .ok (.iload 5, 2) := by decide +kernel
theorem dX9_falls_60 : decode cX9_falls 60 = .ok (.iconst 3, 1) := by decide +kernel
theorem dX9_falls_61 : decode cX9_falls 61 = .ok (.invokevirtual 63, 3) := by decide +kernel
theorem dX9_falls_64 : decode cX9_falls 64 = .ok (.invokevirtual 100, 3) := by decide +kernel
theorem dX9_falls_67 : decode cX9_falls 67 = .ok (.iconst 2, 1) := by decide +kernel
theorem dX9_falls_68 : decode cX9_falls 68 = .ok (.if_icmp .ne 24, 3) := by decide +kernel
theorem dX9_falls_71 : decode cX9_falls 71 = .ok (.aload_n 0, 1) := by decide +kernel
theorem dX9_falls_72 : decode cX9_falls 72 = .ok (.iload 5, 2) := by decide +kernel
theorem dX9_falls_74 : decode cX9_falls 74 = .ok (.aload_n 0, 1) := by decide +kernel
theorem dX9_falls_75 : decode cX9_falls 75 = .ok (.iload 5, 2) := by decide +kernel
theorem dX9_falls_77 : decode cX9_falls 77 = .ok (.iconst 4, 1) := by decide +kernel
theorem dX9_falls_78 : decode cX9_falls 78 = .ok (.invokevirtual 63, 3) := by decide +kernel
theorem dX9_falls_81 : decode cX9_falls 81 = .ok (.invokevirtual 100, 3) := by decide +kernel
theorem dX9_falls_84 : decode cX9_falls 84 = .ok (.iconst 2, 1) := by decide +kernel
theorem dX9_falls_85 : decode cX9_falls 85 = .ok (.if_icmp .ne 7, 3) := by decide +kernel
theorem dX9_falls_88 : decode cX9_falls 88 = .ok (.iconst 1, 1) := by decide +kernel
theorem dX9_falls_89 : decode cX9_falls 89 = .ok (.goto 4, 3) := by decide +kernel
theorem dX9_falls_92 : decode cX9_falls 92 = .ok (.iconst 0, 1) := by decide +kernel
theorem dX9_falls_93 : decode cX9_falls 93 = .ok (.istore 6, 2) := by decide +kernel
theorem dX9_falls_95 : decode cX9_falls 95 = .ok (.aload_n 0, 1) := by decide +kernel
theorem dX9_falls_96 : decode cX9_falls 96 = .ok (.iload_n 3, 1) := by decide +kernel
theorem dX9_falls_97 : decode cX9_falls 97 = .ok (.iconst 5, 1) := by decide +kernel
theorem dX9_falls_98 : decode cX9_falls 98 = .ok (.invokevirtual 63, 3) := by decide +kernel
theorem dX9_falls_101 : decode cX9_falls 101 = .ok (.istore 7, 2) := by decide +kernel
theorem dX9_falls_103 : decode cX9_falls 103 = .ok (.aload_n 0, 1) := by decide +kernel
theorem dX9_falls_104 : decode cX9_falls 104 = .ok (.iload_n 3, 1) := by decide +kernel
theorem dX9_falls_105 : decode cX9_falls 105 = .ok (.iload 5, 2) := by decide +kernel
theorem dX9_falls_107 : decode cX9_falls 107 = .ok (.invokevirtual 100, 3) := by decide +kernel
theorem dX9_falls_110 : decode cX9_falls 110 = .ok (.iconst 2, 1) := by decide +kernel
theorem dX9_falls_111 : decode cX9_falls 111 = .ok (.if_icmp .eq 8, 3) := by decide +kernel
theorem dX9_falls_114 : decode cX9_falls 114 = .ok (.iload 6, 2) := by decide +kernel
theorem dX9_falls_116 : decode cX9_falls 116 = .ok (.ifCond .eq 60, 3) := by decide +kernel
theorem dX9_falls_119 : decode cX9_falls 119 = .ok (.aload_n 0, 1) := by decide +kernel
theorem dX9_falls_120 : decode cX9_falls 120 = .ok (.iload_n 3, 1) := by decide +kernel
theorem dX9_falls_121 : decode cX9_falls 121 = .ok (.iconst (-1), 1) := by decide +kernel
theorem dX9_falls_122 : decode cX9_falls 122 = .ok (.invokevirtual 103, 3) := by decide +kernel
theorem dX9_falls_125 : decode cX9_falls 125 = .ok (.aload_n 0, 1) := by decide +kernel
theorem dX9_falls_126 : decode cX9_falls 126 = .ok (.iconst 1, 1) := by decide +kernel
theorem dX9_falls_127 : decode cX9_falls 127 = .ok (.invokevirtual 79, 3) := by decide +kernel
theorem dX9_falls_130 : decode cX9_falls 130 = .ok (.iload 6, 2) := by decide +kernel
theorem dX9_falls_132 : decode cX9_falls 132 = .ok (.ifCond .eq 15, 3) := by decide +kernel
theorem dX9_falls_135 : decode cX9_falls 135 = .ok (.aload_n 0, 1) := by decide +kernel
theorem dX9_falls_136 : decode cX9_falls 136 = .ok (.iload 5, 2) := by decide +kernel
theorem dX9_falls_138 : decode cX9_falls 138 = .ok (.iconst (-1), 1) := by decide +kernel
theorem dX9_falls_139 : decode cX9_falls 139 = .ok (.invokevirtual 103, 3) := by decide +kernel
theorem dX9_falls_142 : decode cX9_falls 142 = .ok (.aload_n 0, 1) := by decide +kernel
theorem dX9_falls_143 : decode cX9_falls 143 = .ok (.iconst 1, 1) := by decide +kernel
theorem dX9_falls_144 : decode cX9_falls 144 = .ok (.invokevirtual 79, 3) := by decide +kernel
theorem dX9_falls_147 : decode cX9_falls 147 = .ok (.iload 7, 2) := by decide +kernel
theorem dX9_falls_149 : decode cX9_falls 149 = .ok (.iconst (-1), 1) := by decide +kernel
theorem dX9_falls_150 : decode cX9_falls 150 = .ok (.if_icmp .eq 17, 3) := by decide +kernel
theorem dX9_falls_153 : decode cX9_falls 153 = .ok (.aload_n 0, 1) := by decide +kernel
theorem dX9_falls_154 : decode cX9_falls 154 = .ok (.iload 7, 2) := by decide +kernel
theorem dX9_falls_156 : decode cX9_falls 156 = .ok (.iload_n 3, 1) := by decide +kernel
theorem dX9_falls_157 : decode cX9_falls 157 = .ok (.invokevirtual 67, 3) := by decide +kernel
theorem dX9_falls_160 : decode cX9_falls 160 = .ok (.ifCond .eq 7, 3) := by decide +kernel
theorem dX9_falls_163 : decode cX9_falls 163 = .ok (.iconst 1, 1) := by decide +kernel
theorem dX9_falls_164 : decode cX9_falls 164 = .ok (.goto 4, 3) := by decide +kernel
theorem dX9_falls_167 : decode cX9_falls 167 = .ok (.iconst 0, 1) := by decide +kernel
theorem dX9_falls_168 : decode cX9_falls 168 = .ok (.istore 4, 2) := by decide +kernel
theorem dX9_falls_170 : decode cX9_falls 170 = .ok (.iload 7, 2) := by decide +kernel
theorem dX9_falls_172 : decode cX9_falls 172 = .ok (.istore_n 3, 1) := by decide +kernel
theorem dX9_falls_173 : decode cX9_falls 173 = .ok (.goto 14, 3) := by decide +kernel
theorem dX9_falls_176 : decode cX9_falls 176 = .ok (.aload_n 0, 1) := by decide +kernel
theorem dX9_falls_177 : decode cX9_falls 177 = .ok (.iload_n 3, 1) := by decide +kernel
theorem dX9_falls_178 : decode cX9_falls 178 = .ok (.iload 5, 2) := by decide +kernel
theorem dX9_falls_180 : decode cX9_falls 180 = .ok (.iload 4, 2) := by decide +kernel
theorem dX9_falls_182 : decode cX9_falls 182 = .ok (.invokevirtual 124, 3) := by decide +kernel
theorem dX9_falls_185 : decode cX9_falls 185 = .ok (.iconst (-1), 1) := by decide +kernel
theorem dX9_falls_186 : decode cX9_falls 186 = .ok (.istore_n 3, 1) := by decide +kernel
theorem dX9_falls_187 : decode cX9_falls 187 = .ok (.goto (-182), 3) := by decide +kernel
theorem dX9_falls_190 : decode cX9_falls 190 = .ok (.return_, 1) := by decide +kernel
theorem dX9_turnsDown_0 : decode cX9_turnsDown 0 = .ok (.aload_n 0, 1) := by decide +kernel
theorem dX9_turnsDown_1 : decode cX9_turnsDown 1 = .ok (.iload_n 2, 1) := by decide +kernel
theorem dX9_turnsDown_2 : decode cX9_turnsDown 2 = .ok (.iload_n 3, 1) := by decide +kernel
theorem dX9_turnsDown_3 : decode cX9_turnsDown 3 = .ok (.invokevirtual 71, 3) := by decide +kernel
theorem dX9_turnsDown_6 : decode cX9_turnsDown 6 = .ok (.istore 4, 2) := by decide +kernel
theorem dX9_turnsDown_8 : decode cX9_turnsDown 8 = .ok (.aload_n 0, 1) := by decide +kernel
theorem dX9_turnsDown_9 : decode cX9_turnsDown 9 = .ok (.iload_n 2, 1) := by decide +kernel
theorem dX9_turnsDown_10 : decode cX9_turnsDown 10 = .ok (.aload_n 0, 1) := by decide +kernel
theorem dX9_turnsDown_11 : decode cX9_turnsDown 11 = .ok (.iload_n 2, 1) := by decide +kernel
theorem dX9_turnsDown_12 : decode cX9_turnsDown 12 = .ok (.iload_n 3, 1) := by decide +kernel
theorem dX9_turnsDown_13 : decode cX9_turnsDown 13 = .ok (.ifCond .ne 7, 3) := by decide +kernel
theorem dX9_turnsDown_16 : decode cX9_turnsDown 16 = .ok (.iconst 1, 1) := by decide +kernel
theorem dX9_turnsDown_17 : decode cX9_turnsDown 17 = .ok (.goto 4, 3) := by decide +kernel
theorem dX9_turnsDown_20 : decode cX9_turnsDown 20 = .ok (.iconst 0, 1) := by decide +kernel
theorem dX9_turnsDown_21 : decode cX9_turnsDown 21 = .ok (.invokevirtual 71, 3) := by decide +kernel
theorem dX9_turnsDown_24 : decode cX9_turnsDown 24 = .ok (.invokevirtual 100, 3) := by decide +kernel
theorem dX9_turnsDown_27 : decode cX9_turnsDown 27 = .ok (.iconst 1, 1) := by decide +kernel
theorem dX9_turnsDown_28 : decode cX9_turnsDown 28 = .ok (.if_icmp .ne 37, 3) := by decide +kernel
theorem dX9_turnsDown_31 : decode cX9_turnsDown 31 = .ok (.aload_n 0, 1) := by decide +kernel
theorem dX9_turnsDown_32 : decode cX9_turnsDown 32 = .ok (.iload_n 2, 1) := by decide +kernel
theorem dX9_turnsDown_33 : decode cX9_turnsDown 33 = .ok (.invokevirtual 110, 3) := by decide +kernel
theorem dX9_turnsDown_36 : decode cX9_turnsDown 36 = .ok (.aload_n 0, 1) := by decide +kernel
theorem dX9_turnsDown_37 : decode cX9_turnsDown 37 = .ok (.iload_n 2, 1) := by decide +kernel
theorem dX9_turnsDown_38 : decode cX9_turnsDown 38 = .ok (.iconst 1, 1) := by decide +kernel
theorem dX9_turnsDown_39 : decode cX9_turnsDown 39 = .ok (.invokevirtual 103, 3) := by decide +kernel
theorem dX9_turnsDown_42 : decode cX9_turnsDown 42 = .ok (.aload_n 0, 1) := by decide +kernel
theorem dX9_turnsDown_43 : decode cX9_turnsDown 43 = .ok (.iload_n 1, 1) := by decide +kernel
theorem dX9_turnsDown_44 : decode cX9_turnsDown 44 = .ok (.iconst (-1), 1) := by decide +kernel
theorem dX9_turnsDown_45 : decode cX9_turnsDown 45 = .ok (.invokevirtual 103, 3) := by decide +kernel
theorem dX9_turnsDown_48 : decode cX9_turnsDown 48 = .ok (.aload_n 0, 1) := by decide +kernel
theorem dX9_turnsDown_49 : decode cX9_turnsDown 49 = .ok (.iload_n 1, 1) := by decide +kernel
theorem dX9_turnsDown_50 : decode cX9_turnsDown 50 = .ok (.invokevirtual 116, 3) := by decide +kernel
theorem dX9_turnsDown_53 : decode cX9_turnsDown 53 = .ok (.ifCond .eq 44, 3) := by decide +kernel
theorem dX9_turnsDown_56 : decode cX9_turnsDown 56 = .ok (.aload_n 0, 1) := by decide +kernel
theorem dX9_turnsDown_57 : decode cX9_turnsDown 57 = .ok (.iload_n 1, 1) := by decide +kernel
theorem dX9_turnsDown_58 : decode cX9_turnsDown 58 = .ok (.iconst (-1), 1) := by decide +kernel
theorem dX9_turnsDown_59 : decode cX9_turnsDown 59 = .ok (.invokevirtual 103, 3) := by decide +kernel
theorem dX9_turnsDown_62 : decode cX9_turnsDown 62 = .ok (.goto 35, 3) := by decide +kernel
theorem dX9_turnsDown_65 : decode cX9_turnsDown 65 = .ok (.aload_n 0, 1) := by decide +kernel
theorem dX9_turnsDown_66 : decode cX9_turnsDown 66 = .ok (.iload 4, 2) := by decide +kernel
theorem dX9_turnsDown_68 : decode cX9_turnsDown 68 = .ok (.invokevirtual 110, 3) := by decide +kernel
theorem dX9_turnsDown_71 : decode cX9_turnsDown 71 = .ok (.aload_n 0, 1) := by decide +kernel
theorem dX9_turnsDown_72 : decode cX9_turnsDown 72 = .ok (.iload 4, 2) := by decide +kernel
theorem dX9_turnsDown_74 : decode cX9_turnsDown 74 = .ok (.invokevirtual 110, 3) := by decide +kernel
theorem dX9_turnsDown_77 : decode cX9_turnsDown 77 = .ok (.aload_n 0, 1) := by decide +kernel
theorem dX9_turnsDown_78 : decode cX9_turnsDown 78 = .ok (.iload 4, 2) := by decide +kernel
theorem dX9_turnsDown_80 : decode cX9_turnsDown 80 = .ok (.iconst 2, 1) := by decide +kernel
theorem dX9_turnsDown_81 : decode cX9_turnsDown 81 = .ok (.invokevirtual 103, 3) := by decide +kernel
theorem dX9_turnsDown_84 : decode cX9_turnsDown 84 = .ok (.aload_n 0, 1) := by decide +kernel
theorem dX9_turnsDown_85 : decode cX9_turnsDown 85 = .ok (.iload_n 2, 1) := by decide +kernel
theorem dX9_turnsDown_86 : decode cX9_turnsDown 86 = .ok (.iconst (-1), 1) := by decide +kernel
theorem dX9_turnsDown_87 : decode cX9_turnsDown 87 = .ok (.invokevirtual 103, 3) := by decide +kernel
theorem dX9_turnsDown_90 : decode cX9_turnsDown 90 = .ok (.aload_n 0, 1) := by decide +kernel
theorem dX9_turnsDown_91 : decode cX9_turnsDown 91 = .ok (.iload_n 1, 1) := by decide +kernel
theorem dX9_turnsDown_92 : decode cX9_turnsDown 92 = .ok (.bipush (-2), 2) := by decide +kernel
theorem dX9_turnsDown_94 : decode cX9_turnsDown 94 = .ok (.invokevirtual 103, 3) := by decide +kernel
theorem dX9_turnsDown_97 : decode cX9_turnsDown 97 = .ok (.return_, 1) := by decide +kernel
theorem dX9_numbers_0 : decode cX9_numbers 0 = .ok (.iconst 0, 1) := by decide +kernel
theorem dX9_numbers_1 : decode cX9_numbers 1 = .ok (.istore_n 1, 1) := by decide +kernel
theorem dX9_numbers_2 : decode cX9_numbers 2 = .ok (.iconst 0, 1) := by decide +kernel
theorem dX9_numbers_3 : decode cX9_numbers 3 = .ok (.istore_n 2, 1) := by decide +kernel
theorem dX9_numbers_4 : decode cX9_numbers 4 = .ok (.aload_n 0, 1) := by decide +kernel
theorem dX9_numbers_5 : decode cX9_numbers 5 = .ok (.invokevirtual 87, 3) := by decide +kernel
theorem dX9_numbers_8 : decode cX9_numbers 8 = .ok (.iconst (-1), 1) := by decide +kernel
theorem dX9_numbers_9 : decode cX9_numbers 9 = .ok (.if_icmp .eq 25, 3) := by decide +kernel
theorem dX9_numbers_12 : decode cX9_numbers 12 = .ok (.aload_n 0, 1) := by decide +kernel
theorem dX9_numbers_13 : decode cX9_numbers 13 = .ok (.getfield 35, 3) := by decide +kernel
theorem dX9_numbers_16 : decode cX9_numbers 16 = .ok (.iconst 0, 1) := by decide +kernel
theorem dX9_numbers_17 : decode cX9_numbers 17 = .ok (.aload_n 0, 1) := by decide +kernel
theorem dX9_numbers_18 : decode cX9_numbers 18 = .ok (.invokevirtual 87, 3) := by decide +kernel
theorem dX9_numbers_21 : decode cX9_numbers 21 = .ok (.iastore, 1) := by decide +kernel
theorem dX9_numbers_22 : decode cX9_numbers 22 = .ok (.aload_n 0, 1) := by decide +kernel
theorem dX9_numbers_23 : decode cX9_numbers 23 = .ok (.getfield 32, 3) := by decide +kernel
theorem dX9_numbers_26 : decode cX9_numbers 26 = .ok (.aload_n 0, 1) := by decide +kernel
theorem dX9_numbers_27 : decode cX9_numbers 27 = .ok (.invokevirtual 87, 3) := by decide +kernel
theorem dX9_numbers_30 : decode cX9_numbers 30 = .ok (.iconst 0, 1) := by decide +kernel
theorem dX9_numbers_31 : decode cX9_numbers 31 = .ok (.iastore, 1) := by decide +kernel
theorem dX9_numbers_32 : decode cX9_numbers 32 = .ok (.iconst 1, 1) := by decide +kernel
theorem dX9_numbers_33 : decode cX9_numbers 33 = .ok (.istore_n 2, 1) := by decide +kernel
theorem dX9_numbers_34 : decode cX9_numbers 34 = .ok (.iload_n 2, 1) := by decide +kernel
theorem dX9_numbers_35 : decode cX9_numbers 35 = .ok (.ifCond .le 98, 3) := by decide +kernel
theorem dX9_numbers_38 : decode cX9_numbers 38 = .ok (.iinc 2 (-1), 3) := by decide +kernel
theorem dX9_numbers_41 : decode cX9_numbers 41 = .ok (.aload_n 0, 1) := by decide +kernel
theorem dX9_numbers_42 : decode cX9_numbers 42 = .ok (.getfield 35, 3) := by decide +kernel
theorem dX9_numbers_45 : decode cX9_numbers 45 = .ok (.iload_n 2, 1) := by decide +kernel
theorem dX9_numbers_46 : decode cX9_numbers 46 = .ok (.iaload, 1) := by decide +kernel
theorem dX9_numbers_47 : decode cX9_numbers 47 = .ok (.istore_n 3, 1) := by decide +kernel
theorem dX9_numbers_48 : decode cX9_numbers 48 = .ok (.aload_n 0, 1) := by decide +kernel
theorem dX9_numbers_49 : decode cX9_numbers 49 = .ok (.getfield 26, 3) := by decide +kernel
theorem dX9_numbers_52 : decode cX9_numbers 52 = .ok (.iload_n 1, 1) := by decide +kernel
theorem dX9_numbers_53 : decode cX9_numbers 53 = .ok (.iload_n 3, 1) := by decide +kernel
theorem dX9_numbers_54 : decode cX9_numbers 54 = .ok (.iastore, 1) := by decide +kernel
theorem dX9_numbers_55 : decode cX9_numbers 55 = .ok (.aload_n 0, 1) := by decide +kernel
theorem dX9_numbers_56 : decode cX9_numbers 56 = .ok (.getfield 29, 3) := by decide +kernel
theorem dX9_numbers_59 : decode cX9_numbers 59 = .ok (.iload_n 3, 1) := by decide +kernel
theorem dX9_numbers_60 : decode cX9_numbers 60 = .ok (.iload_n 1, 1) := by decide +kernel
theorem dX9_numbers_61 : decode cX9_numbers 61 = .ok (.iastore, 1) := by decide +kernel
theorem dX9_numbers_62 : decode cX9_numbers 62 = .ok (.iinc 1 1, 3) := by decide +kernel
theorem dX9_numbers_65 : decode cX9_numbers 65 = .ok (.iconst 0, 1) := by decide +kernel
theorem dX9_numbers_66 : decode cX9_numbers 66 = .ok (.istore 4, 2) := by decide +kernel
theorem dX9_numbers_68 : decode cX9_numbers 68 = .ok (.iload 4, 2) := by decide +kernel
theorem dX9_numbers_70 : decode cX9_numbers 70 = .ok (.iconst 2, 1) := by decide +kernel
theorem dX9_numbers_71 : decode cX9_numbers 71 = .ok (.if_icmp .ge 59, 3) := by decide +kernel
theorem dX9_numbers_74 : decode cX9_numbers 74 = .ok (.aload_n 0, 1) := by decide +kernel
theorem dX9_numbers_75 : decode cX9_numbers 75 = .ok (.iload_n 3, 1) := by decide +kernel
theorem dX9_numbers_76 : decode cX9_numbers 76 = .ok (.iload 4, 2) := by decide +kernel
theorem dX9_numbers_78 : decode cX9_numbers 78 = .ok (.iconst 1, 1) := by decide +kernel
theorem dX9_numbers_79 : decode cX9_numbers 79 = .ok (.if_icmp .ne 7, 3) := by decide +kernel
theorem dX9_numbers_82 : decode cX9_numbers 82 = .ok (.iconst 1, 1) := by decide +kernel
theorem dX9_numbers_83 : decode cX9_numbers 83 = .ok (.goto 4, 3) := by decide +kernel
theorem dX9_numbers_86 : decode cX9_numbers 86 = .ok (.iconst 0, 1) := by decide +kernel
theorem dX9_numbers_87 : decode cX9_numbers 87 = .ok (.invokevirtual 71, 3) := by decide +kernel
theorem dX9_numbers_90 : decode cX9_numbers 90 = .ok (.istore 5, 2) := by decide +kernel
theorem dX9_numbers_92 : decode cX9_numbers 92 = .ok (.iload 5, 2) := by decide +kernel
theorem dX9_numbers_94 : decode cX9_numbers 94 = .ok (.iconst (-1), 1) := by decide +kernel
theorem dX9_numbers_95 : decode cX9_numbers 95 = .ok (.if_icmp .eq 29, 3) := by decide +kernel
theorem dX9_numbers_98 : decode cX9_numbers 98 = .ok (.aload_n 0, 1) := by decide +kernel
theorem dX9_numbers_99 : decode cX9_numbers 99 = .ok (.getfield 35, 3) := by decide +kernel
theorem dX9_numbers_102 : decode cX9_numbers 102 = .ok (.iload_n 2, 1) := by decide +kernel
theorem dX9_numbers_103 : decode cX9_numbers 103 = .ok (.iload 5, 2) := by decide +kernel
theorem dX9_numbers_105 : decode cX9_numbers 105 = .ok (.iastore, 1) := by decide +kernel
theorem dX9_numbers_106 : decode cX9_numbers 106 = .ok (.aload_n 0, 1) := by decide +kernel
theorem dX9_numbers_107 : decode cX9_numbers 107 = .ok (.getfield 32, 3) := by decide +kernel
theorem dX9_numbers_110 : decode cX9_numbers 110 = .ok (.iload 5, 2) := by decide +kernel
theorem dX9_numbers_112 : decode cX9_numbers 112 = .ok (.aload_n 0, 1) := by decide +kernel
theorem dX9_numbers_113 : decode cX9_numbers 113 = .ok (.getfield 32, 3) := by decide +kernel
theorem dX9_numbers_116 : decode cX9_numbers 116 = .ok (.iload_n 3, 1) := by decide +kernel
theorem dX9_numbers_117 : decode cX9_numbers 117 = .ok (.iaload, 1) := by decide +kernel
theorem dX9_numbers_118 : decode cX9_numbers 118 = .ok (.iconst 1, 1) := by decide +kernel
theorem dX9_numbers_119 : decode cX9_numbers 119 = .ok (.iadd, 1) := by decide +kernel
theorem dX9_numbers_120 : decode cX9_numbers 120 = .ok (.iastore, 1) := by decide +kernel
theorem dX9_numbers_121 : decode cX9_numbers 121 = .ok (.iinc 2 1, 3) := by decide +kernel
theorem dX9_numbers_124 : decode cX9_numbers 124 = .ok (.iinc 4 1, 3) := by decide +kernel
theorem dX9_numbers_127 : decode cX9_numbers 127 = .ok (.goto (-59), 3) := by decide +kernel
theorem dX9_numbers_130 : decode cX9_numbers 130 = .ok (.goto (-96), 3) := by decide +kernel
theorem dX9_numbers_133 : decode cX9_numbers 133 = .ok (.return_, 1) := by decide +kernel
theorem dX9_sizeOf_0 : decode cX9_sizeOf 0 = .ok (.iconst 0, 1) := by decide +kernel
theorem dX9_sizeOf_1 : decode cX9_sizeOf 1 = .ok (.istore_n 2, 1) := by decide +kernel
theorem dX9_sizeOf_2 : decode cX9_sizeOf 2 = .ok (.aload_n 0, 1) := by decide +kernel
theorem dX9_sizeOf_3 : decode cX9_sizeOf 3 = .ok (.getfield 29, 3) := by decide +kernel
theorem dX9_sizeOf_6 : decode cX9_sizeOf 6 = .ok (.iload_n 1, 1) := by decide +kernel
theorem dX9_sizeOf_7 : decode cX9_sizeOf 7 = .ok (.iaload, 1) := by decide +kernel
theorem dX9_sizeOf_8 : decode cX9_sizeOf 8 = .ok (.istore_n 3, 1) := by decide +kernel
theorem dX9_sizeOf_9 : decode cX9_sizeOf 9 = .ok (.iload_n 3, 1) := by decide +kernel
theorem dX9_sizeOf_10 : decode cX9_sizeOf 10 = .ok (.iload_n 2, 1) := by decide +kernel
theorem dX9_sizeOf_11 : decode cX9_sizeOf 11 = .ok (.iadd, 1) := by decide +kernel
theorem dX9_sizeOf_12 : decode cX9_sizeOf 12 = .ok (.aload_n 0, 1) := by decide +kernel
theorem dX9_sizeOf_13 : decode cX9_sizeOf 13 = .ok (.invokevirtual 128, 3) := by decide +kernel
theorem dX9_sizeOf_16 : decode cX9_sizeOf 16 = .ok (.if_icmp .ge 35, 3) := by decide +kernel
theorem dX9_sizeOf_19 : decode cX9_sizeOf 19 = .ok (.iload_n 2, 1) := by decide +kernel
theorem dX9_sizeOf_20 : decode cX9_sizeOf 20 = .ok (.ifCond .eq 25, 3) := by decide +kernel
theorem dX9_sizeOf_23 : decode cX9_sizeOf 23 = .ok (.aload_n 0, 1) := by decide +kernel
theorem dX9_sizeOf_24 : decode cX9_sizeOf 24 = .ok (.getfield 32, 3) := by decide +kernel
theorem dX9_sizeOf_27 : decode cX9_sizeOf 27 = .ok (.aload_n 0, 1) := by decide +kernel
theorem dX9_sizeOf_28 : decode cX9_sizeOf 28 = .ok (.getfield 26, 3) := by decide +kernel
theorem dX9_sizeOf_31 : decode cX9_sizeOf 31 = .ok (.iload_n 3, 1) := by decide +kernel
theorem dX9_sizeOf_32 : decode cX9_sizeOf 32 = .ok (.iload_n 2, 1) := by decide +kernel
theorem dX9_sizeOf_33 : decode cX9_sizeOf 33 = .ok (.iadd, 1) := by decide +kernel
theorem dX9_sizeOf_34 : decode cX9_sizeOf 34 = .ok (.iaload, 1) := by decide +kernel
theorem dX9_sizeOf_35 : decode cX9_sizeOf 35 = .ok (.iaload, 1) := by decide +kernel
theorem dX9_sizeOf_36 : decode cX9_sizeOf 36 = .ok (.aload_n 0, 1) := by decide +kernel
theorem dX9_sizeOf_37 : decode cX9_sizeOf 37 = .ok (.getfield 32, 3) := by decide +kernel
theorem dX9_sizeOf_40 : decode cX9_sizeOf 40 = .ok (.iload_n 1, 1) := by decide +kernel
theorem dX9_sizeOf_41 : decode cX9_sizeOf 41 = .ok (.iaload, 1) := by decide +kernel
theorem dX9_sizeOf_42 : decode cX9_sizeOf 42 = .ok (.if_icmp .le 9, 3) := by decide +kernel
theorem dX9_sizeOf_45 : decode cX9_sizeOf 45 = .ok (.iinc 2 1, 3) := by decide +kernel
theorem dX9_sizeOf_48 : decode cX9_sizeOf 48 = .ok (.goto (-39), 3) := by decide +kernel
theorem dX9_sizeOf_51 : decode cX9_sizeOf 51 = .ok (.iload_n 2, 1) := by decide +kernel
theorem dX9_sizeOf_52 : decode cX9_sizeOf 52 = .ok (.ireturn, 1) := by decide +kernel
theorem dX9_depth_0 : decode cX9_depth 0 = .ok (.iconst 0, 1) := by decide +kernel
theorem dX9_depth_1 : decode cX9_depth 1 = .ok (.istore_n 1, 1) := by decide +kernel
theorem dX9_depth_2 : decode cX9_depth 2 = .ok (.aload_n 0, 1) := by decide +kernel
theorem dX9_depth_3 : decode cX9_depth 3 = .ok (.invokevirtual 131, 3) := by decide +kernel
theorem dX9_depth_6 : decode cX9_depth 6 = .ok (.iconst 0, 1) := by decide +kernel
theorem dX9_depth_7 : decode cX9_depth 7 = .ok (.istore_n 2, 1) := by decide +kernel
theorem dX9_depth_8 : decode cX9_depth 8 = .ok (.iload_n 2, 1) := by decide +kernel
theorem dX9_depth_9 : decode cX9_depth 9 = .ok (.aload_n 0, 1) := by decide +kernel
theorem dX9_depth_10 : decode cX9_depth 10 = .ok (.invokevirtual 128, 3) := by decide +kernel
theorem dX9_depth_13 : decode cX9_depth 13 = .ok (.if_icmp .ge 44, 3) := by decide +kernel
theorem dX9_depth_16 : decode cX9_depth 16 = .ok (.aload_n 0, 1) := by decide +kernel
theorem dX9_depth_17 : decode cX9_depth 17 = .ok (.getfield 32, 3) := by decide +kernel
theorem dX9_depth_20 : decode cX9_depth 20 = .ok (.aload_n 0, 1) := by decide +kernel
theorem dX9_depth_21 : decode cX9_depth 21 = .ok (.getfield 26, 3) := by decide +kernel
theorem dX9_depth_24 : decode cX9_depth 24 = .ok (.iload_n 2, 1) := by decide +kernel
theorem dX9_depth_25 : decode cX9_depth 25 = .ok (.iaload, 1) := by decide +kernel
theorem dX9_depth_26 : decode cX9_depth 26 = .ok (.iaload, 1) := by decide +kernel
theorem dX9_depth_27 : decode cX9_depth 27 = .ok (.iconst 1, 1) := by decide +kernel
theorem dX9_depth_28 : decode cX9_depth 28 = .ok (.iadd, 1) := by decide +kernel
theorem dX9_depth_29 : decode cX9_depth 29 = .ok (.iload_n 1, 1) := by decide +kernel
theorem dX9_depth_30 : decode cX9_depth 30 = .ok (.if_icmp .le 19, 3) := by decide +kernel
theorem dX9_depth_33 : decode cX9_depth 33 = .ok (.aload_n 0, 1) := by decide +kernel
theorem dX9_depth_34 : decode cX9_depth 34 = .ok (.getfield 32, 3) := by decide +kernel
theorem dX9_depth_37 : decode cX9_depth 37 = .ok (.aload_n 0, 1) := by decide +kernel
theorem dX9_depth_38 : decode cX9_depth 38 = .ok (.getfield 26, 3) := by decide +kernel
theorem dX9_depth_41 : decode cX9_depth 41 = .ok (.iload_n 2, 1) := by decide +kernel
theorem dX9_depth_42 : decode cX9_depth 42 = .ok (.iaload, 1) := by decide +kernel
theorem dX9_depth_43 : decode cX9_depth 43 = .ok (.iaload, 1) := by decide +kernel
theorem dX9_depth_44 : decode cX9_depth 44 = .ok (.iconst 1, 1) := by decide +kernel
theorem dX9_depth_45 : decode cX9_depth 45 = .ok (.iadd, 1) := by decide +kernel
theorem dX9_depth_46 : decode cX9_depth 46 = .ok (.goto 4, 3) := by decide +kernel
theorem dX9_depth_49 : decode cX9_depth 49 = .ok (.iload_n 1, 1) := by decide +kernel
theorem dX9_depth_50 : decode cX9_depth 50 = .ok (.istore_n 1, 1) := by decide +kernel
theorem dX9_depth_51 : decode cX9_depth 51 = .ok (.iinc 2 1, 3) := by decide +kernel
theorem dX9_depth_54 : decode cX9_depth 54 = .ok (.goto (-46), 3) := by decide +kernel
theorem dX9_depth_57 : decode cX9_depth 57 = .ok (.iload_n 1, 1) := by decide +kernel
theorem dX9_depth_58 : decode cX9_depth 58 = .ok (.ireturn, 1) := by decide +kernel
theorem dX9_lessThan_0 : decode cX9_lessThan 0 = .ok (.iconst 0, 1) := by decide +kernel
theorem dX9_lessThan_1 : decode cX9_lessThan 1 = .ok (.istore_n 2, 1) := by decide +kernel
theorem dX9_lessThan_2 : decode cX9_lessThan 2 = .ok (.iconst 0, 1) := by decide +kernel
theorem dX9_lessThan_3 : decode cX9_lessThan 3 = .ok (.istore_n 3, 1) := by decide +kernel
theorem dX9_lessThan_4 : decode cX9_lessThan 4 = .ok (.iload_n 3, 1) := by decide +kernel
theorem dX9_lessThan_5 : decode cX9_lessThan 5 = .ok (.bipush 60, 2) := by decide +kernel
theorem dX9_lessThan_7 : decode cX9_lessThan 7 = .ok (.if_icmp .ge 37, 3) := by decide +kernel
theorem dX9_lessThan_10 : decode cX9_lessThan 10 = .ok (.iload_n 2, 1) := by decide +kernel
theorem dX9_lessThan_11 : decode cX9_lessThan 11 = .ok (.aload_n 0, 1) := by decide +kernel
theorem dX9_lessThan_12 : decode cX9_lessThan 12 = .ok (.iload_n 3, 1) := by decide +kernel
theorem dX9_lessThan_13 : decode cX9_lessThan 13 = .ok (.iconst 0, 1) := by decide +kernel
theorem dX9_lessThan_14 : decode cX9_lessThan 14 = .ok (.invokevirtual 63, 3) := by decide +kernel
theorem dX9_lessThan_17 : decode cX9_lessThan 17 = .ok (.iconst (-1), 1) := by decide +kernel
theorem dX9_lessThan_18 : decode cX9_lessThan 18 = .ok (.if_icmp .eq 17, 3) := by decide +kernel
theorem dX9_lessThan_21 : decode cX9_lessThan 21 = .ok (.aload_n 0, 1) := by decide +kernel
theorem dX9_lessThan_22 : decode cX9_lessThan 22 = .ok (.iload_n 3, 1) := by decide +kernel
theorem dX9_lessThan_23 : decode cX9_lessThan 23 = .ok (.iconst 0, 1) := by decide +kernel
theorem dX9_lessThan_24 : decode cX9_lessThan 24 = .ok (.invokevirtual 63, 3) := by decide +kernel
theorem dX9_lessThan_27 : decode cX9_lessThan 27 = .ok (.iload_n 1, 1) := by decide +kernel
theorem dX9_lessThan_28 : decode cX9_lessThan 28 = .ok (.if_icmp .ge 7, 3) := by decide +kernel
theorem dX9_lessThan_31 : decode cX9_lessThan 31 = .ok (.iconst 1, 1) := by decide +kernel
theorem dX9_lessThan_32 : decode cX9_lessThan 32 = .ok (.goto 4, 3) := by decide +kernel
theorem dX9_lessThan_35 : decode cX9_lessThan 35 = .ok (.iconst 0, 1) := by decide +kernel
theorem dX9_lessThan_36 : decode cX9_lessThan 36 = .ok (.iadd, 1) := by decide +kernel
theorem dX9_lessThan_37 : decode cX9_lessThan 37 = .ok (.istore_n 2, 1) := by decide +kernel
theorem dX9_lessThan_38 : decode cX9_lessThan 38 = .ok (.iinc 3 1, 3) := by decide +kernel
theorem dX9_lessThan_41 : decode cX9_lessThan 41 = .ok (.goto (-37), 3) := by decide +kernel
theorem dX9_lessThan_44 : decode cX9_lessThan 44 = .ok (.iload_n 2, 1) := by decide +kernel
theorem dX9_lessThan_45 : decode cX9_lessThan 45 = .ok (.ireturn, 1) := by decide +kernel
theorem dX9_besideOf_0 : decode cX9_besideOf 0 = .ok (.iconst (-1), 1) := by decide +kernel
theorem dX9_besideOf_1 : decode cX9_besideOf 1 = .ok (.istore_n 3, 1) := by decide +kernel
theorem dX9_besideOf_2 : decode cX9_besideOf 2 = .ok (.iconst 0, 1) := by decide +kernel
theorem dX9_besideOf_3 : decode cX9_besideOf 3 = .ok (.istore 4, 2) := by decide +kernel
theorem dX9_besideOf_5 : decode cX9_besideOf 5 = .ok (.iload 4, 2) := by decide +kernel
theorem dX9_besideOf_7 : decode cX9_besideOf 7 = .ok (.bipush 60, 2) := by decide +kernel
theorem dX9_besideOf_9 : decode cX9_besideOf 9 = .ok (.if_icmp .ge 98, 3) := by decide +kernel
theorem dX9_besideOf_12 : decode cX9_besideOf 12 = .ok (.aload_n 0, 1) := by decide +kernel
theorem dX9_besideOf_13 : decode cX9_besideOf 13 = .ok (.iload 4, 2) := by decide +kernel
theorem dX9_besideOf_15 : decode cX9_besideOf 15 = .ok (.iconst 0, 1) := by decide +kernel
theorem dX9_besideOf_16 : decode cX9_besideOf 16 = .ok (.invokevirtual 63, 3) := by decide +kernel
theorem dX9_besideOf_19 : decode cX9_besideOf 19 = .ok (.istore 5, 2) := by decide +kernel
theorem dX9_besideOf_21 : decode cX9_besideOf 21 = .ok (.iload 5, 2) := by decide +kernel
theorem dX9_besideOf_23 : decode cX9_besideOf 23 = .ok (.iconst (-1), 1) := by decide +kernel
theorem dX9_besideOf_24 : decode cX9_besideOf 24 = .ok (.if_icmp .eq 26, 3) := by decide +kernel
theorem dX9_besideOf_27 : decode cX9_besideOf 27 = .ok (.iload_n 2, 1) := by decide +kernel
theorem dX9_besideOf_28 : decode cX9_besideOf 28 = .ok (.ifCond .eq 12, 3) := by decide +kernel
theorem dX9_besideOf_31 : decode cX9_besideOf 31 = .ok (.iload 5, 2) := by decide +kernel
theorem dX9_besideOf_33 : decode cX9_besideOf 33 = .ok (.iload_n 1, 1) := by decide +kernel
theorem dX9_besideOf_34 : decode cX9_besideOf 34 = .ok (.if_icmp .ge 16, 3) := by decide +kernel
theorem dX9_besideOf_37 : decode cX9_besideOf 37 = .ok (.goto 9, 3) := by decide +kernel
theorem dX9_besideOf_40 : decode cX9_besideOf 40 = .ok (.iload 5, 2) := by decide +kernel
theorem dX9_besideOf_42 : decode cX9_besideOf 42 = .ok (.iload_n 1, 1) := by decide +kernel
theorem dX9_besideOf_43 : decode cX9_besideOf 43 = .ok (.if_icmp .le 7, 3) := by decide +kernel
theorem dX9_besideOf_46 : decode cX9_besideOf 46 = .ok (.iconst 1, 1) := by decide +kernel
theorem dX9_besideOf_47 : decode cX9_besideOf 47 = .ok (.goto 4, 3) := by decide +kernel
theorem dX9_besideOf_50 : decode cX9_besideOf 50 = .ok (.iconst 0, 1) := by decide +kernel
theorem dX9_besideOf_51 : decode cX9_besideOf 51 = .ok (.istore 6, 2) := by decide +kernel
theorem dX9_besideOf_53 : decode cX9_besideOf 53 = .ok (.iload 6, 2) := by decide +kernel
theorem dX9_besideOf_55 : decode cX9_besideOf 55 = .ok (.ifCond .eq 31, 3) := by decide +kernel
theorem dX9_besideOf_58 : decode cX9_besideOf 58 = .ok (.iload_n 3, 1) := by decide +kernel
theorem dX9_besideOf_59 : decode cX9_besideOf 59 = .ok (.iconst (-1), 1) := by decide +kernel
theorem dX9_besideOf_60 : decode cX9_besideOf 60 = .ok (.if_icmp .eq 22, 3) := by decide +kernel
theorem dX9_besideOf_63 : decode cX9_besideOf 63 = .ok (.iload_n 2, 1) := by decide +kernel
theorem dX9_besideOf_64 : decode cX9_besideOf 64 = .ok (.ifCond .eq 12, 3) := by decide +kernel
theorem dX9_besideOf_67 : decode cX9_besideOf 67 = .ok (.iload 5, 2) := by decide +kernel
theorem dX9_besideOf_69 : decode cX9_besideOf 69 = .ok (.iload_n 3, 1) := by decide +kernel
theorem dX9_besideOf_70 : decode cX9_besideOf 70 = .ok (.if_icmp .le 16, 3) := by decide +kernel
theorem dX9_besideOf_73 : decode cX9_besideOf 73 = .ok (.goto 9, 3) := by decide +kernel
theorem dX9_besideOf_76 : decode cX9_besideOf 76 = .ok (.iload 5, 2) := by decide +kernel
theorem dX9_besideOf_78 : decode cX9_besideOf 78 = .ok (.iload_n 3, 1) := by decide +kernel
theorem dX9_besideOf_79 : decode cX9_besideOf 79 = .ok (.if_icmp .ge 7, 3) := by decide +kernel
theorem dX9_besideOf_82 : decode cX9_besideOf 82 = .ok (.iconst 1, 1) := by decide +kernel
theorem dX9_besideOf_83 : decode cX9_besideOf 83 = .ok (.goto 4, 3) := by decide +kernel
theorem dX9_besideOf_86 : decode cX9_besideOf 86 = .ok (.iconst 0, 1) := by decide +kernel
theorem dX9_besideOf_87 : decode cX9_besideOf 87 = .ok (.istore 7, 2) := by decide +kernel
theorem dX9_besideOf_89 : decode cX9_besideOf 89 = .ok (.iload 7, 2) := by decide +kernel
theorem dX9_besideOf_91 : decode cX9_besideOf 91 = .ok (.ifCond .eq 8, 3) := by decide +kernel
theorem dX9_besideOf_94 : decode cX9_besideOf 94 = .ok (.iload 5, 2) := by decide +kernel
theorem dX9_besideOf_96 : decode cX9_besideOf 96 = .ok (.goto 4, 3) := by decide +kernel
theorem dX9_besideOf_99 : decode cX9_besideOf 99 = .ok (.iload_n 3, 1) := by decide +kernel
theorem dX9_besideOf_100 : decode cX9_besideOf 100 = .ok (.istore_n 3, 1) := by decide +kernel
theorem dX9_besideOf_101 : decode cX9_besideOf 101 = .ok (.iinc 4 1, 3) := by decide +kernel
theorem dX9_besideOf_104 : decode cX9_besideOf 104 = .ok (.goto (-99), 3) := by decide +kernel
theorem dX9_besideOf_107 : decode cX9_besideOf 107 = .ok (.iload_n 3, 1) := by decide +kernel
theorem dX9_besideOf_108 : decode cX9_besideOf 108 = .ok (.ireturn, 1) := by decide +kernel
theorem dX9_sumOf_0 : decode cX9_sumOf 0 = .ok (.iconst 0, 1) := by decide +kernel
theorem dX9_sumOf_1 : decode cX9_sumOf 1 = .ok (.istore_n 2, 1) := by decide +kernel
theorem dX9_sumOf_2 : decode cX9_sumOf 2 = .ok (.iconst 0, 1) := by decide +kernel
theorem dX9_sumOf_3 : decode cX9_sumOf 3 = .ok (.istore_n 3, 1) := by decide +kernel
theorem dX9_sumOf_4 : decode cX9_sumOf 4 = .ok (.iload_n 3, 1) := by decide +kernel
theorem dX9_sumOf_5 : decode cX9_sumOf 5 = .ok (.bipush 60, 2) := by decide +kernel
theorem dX9_sumOf_7 : decode cX9_sumOf 7 = .ok (.if_icmp .ge 32, 3) := by decide +kernel
theorem dX9_sumOf_10 : decode cX9_sumOf 10 = .ok (.iload_n 2, 1) := by decide +kernel
theorem dX9_sumOf_11 : decode cX9_sumOf 11 = .ok (.aload_n 0, 1) := by decide +kernel
theorem dX9_sumOf_12 : decode cX9_sumOf 12 = .ok (.iload_n 3, 1) := by decide +kernel
theorem dX9_sumOf_13 : decode cX9_sumOf 13 = .ok (.iconst 0, 1) := by decide +kernel
theorem dX9_sumOf_14 : decode cX9_sumOf 14 = .ok (.invokevirtual 63, 3) := by decide +kernel
theorem dX9_sumOf_17 : decode cX9_sumOf 17 = .ok (.iconst (-1), 1) := by decide +kernel
theorem dX9_sumOf_18 : decode cX9_sumOf 18 = .ok (.if_icmp .ne 7, 3) := by decide +kernel
theorem dX9_sumOf_21 : decode cX9_sumOf 21 = .ok (.iconst 0, 1) := by decide +kernel
theorem dX9_sumOf_22 : decode cX9_sumOf 22 = .ok (.goto 9, 3) := by decide +kernel
theorem dX9_sumOf_25 : decode cX9_sumOf 25 = .ok (.aload_n 0, 1) := by decide +kernel
theorem dX9_sumOf_26 : decode cX9_sumOf 26 = .ok (.iload_n 3, 1) := by decide +kernel
theorem dX9_sumOf_27 : decode cX9_sumOf 27 = .ok (.iload_n 1, 1) := by decide +kernel
theorem dX9_sumOf_28 : decode cX9_sumOf 28 = .ok (.invokevirtual 63, 3) := by decide +kernel
theorem dX9_sumOf_31 : decode cX9_sumOf 31 = .ok (.iadd, 1) := by decide +kernel
theorem dX9_sumOf_32 : decode cX9_sumOf 32 = .ok (.istore_n 2, 1) := by decide +kernel
theorem dX9_sumOf_33 : decode cX9_sumOf 33 = .ok (.iinc 3 1, 3) := by decide +kernel
theorem dX9_sumOf_36 : decode cX9_sumOf 36 = .ok (.goto (-32), 3) := by decide +kernel
theorem dX9_sumOf_39 : decode cX9_sumOf 39 = .ok (.iload_n 2, 1) := by decide +kernel
theorem dX9_sumOf_40 : decode cX9_sumOf 40 = .ok (.ireturn, 1) := by decide +kernel
theorem dX9_twos_0 : decode cX9_twos 0 = .ok (.iconst 0, 1) := by decide +kernel
theorem dX9_twos_1 : decode cX9_twos 1 = .ok (.istore_n 1, 1) := by decide +kernel
theorem dX9_twos_2 : decode cX9_twos 2 = .ok (.iconst 0, 1) := by decide +kernel
theorem dX9_twos_3 : decode cX9_twos 3 = .ok (.istore_n 2, 1) := by decide +kernel
theorem dX9_twos_4 : decode cX9_twos 4 = .ok (.iload_n 2, 1) := by decide +kernel
theorem dX9_twos_5 : decode cX9_twos 5 = .ok (.bipush 60, 2) := by decide +kernel
theorem dX9_twos_7 : decode cX9_twos 7 = .ok (.if_icmp .ge 60, 3) := by decide +kernel
theorem dX9_twos_10 : decode cX9_twos 10 = .ok (.aload_n 0, 1) := by decide +kernel
theorem dX9_twos_11 : decode cX9_twos 11 = .ok (.iload_n 2, 1) := by decide +kernel
theorem dX9_twos_12 : decode cX9_twos 12 = .ok (.iconst 0, 1) := by decide +kernel
theorem dX9_twos_13 : decode cX9_twos 13 = .ok (.invokevirtual 63, 3) := by decide +kernel
theorem dX9_twos_16 : decode cX9_twos 16 = .ok (.iconst (-1), 1) := by decide +kernel
theorem dX9_twos_17 : decode cX9_twos 17 = .ok (.if_icmp .eq 15, 3) := by decide +kernel
theorem dX9_twos_20 : decode cX9_twos 20 = .ok (.iload_n 2, 1) := by decide +kernel
theorem dX9_twos_21 : decode cX9_twos 21 = .ok (.aload_n 0, 1) := by decide +kernel
theorem dX9_twos_22 : decode cX9_twos 22 = .ok (.invokevirtual 87, 3) := by decide +kernel
theorem dX9_twos_25 : decode cX9_twos 25 = .ok (.if_icmp .eq 7, 3) := by decide +kernel
theorem dX9_twos_28 : decode cX9_twos 28 = .ok (.iconst 1, 1) := by decide +kernel
theorem dX9_twos_29 : decode cX9_twos 29 = .ok (.goto 4, 3) := by decide +kernel
theorem dX9_twos_32 : decode cX9_twos 32 = .ok (.iconst 0, 1) := by decide +kernel
theorem dX9_twos_33 : decode cX9_twos 33 = .ok (.istore_n 3, 1) := by decide +kernel
theorem dX9_twos_34 : decode cX9_twos 34 = .ok (.iload_n 1, 1) := by decide +kernel
theorem dX9_twos_35 : decode cX9_twos 35 = .ok (.iload_n 3, 1) := by decide +kernel
theorem dX9_twos_36 : decode cX9_twos 36 = .ok (.ifCond .eq 22, 3) := by decide +kernel
theorem dX9_twos_39 : decode cX9_twos 39 = .ok (.aload_n 0, 1) := by decide +kernel
theorem dX9_twos_40 : decode cX9_twos 40 = .ok (.aload_n 0, 1) := by decide +kernel
theorem dX9_twos_41 : decode cX9_twos 41 = .ok (.iload_n 2, 1) := by decide +kernel
theorem dX9_twos_42 : decode cX9_twos 42 = .ok (.iconst 5, 1) := by decide +kernel
theorem dX9_twos_43 : decode cX9_twos 43 = .ok (.invokevirtual 63, 3) := by decide +kernel
theorem dX9_twos_46 : decode cX9_twos 46 = .ok (.iload_n 2, 1) := by decide +kernel
theorem dX9_twos_47 : decode cX9_twos 47 = .ok (.invokevirtual 100, 3) := by decide +kernel
theorem dX9_twos_50 : decode cX9_twos 50 = .ok (.iconst 2, 1) := by decide +kernel
theorem dX9_twos_51 : decode cX9_twos 51 = .ok (.if_icmp .ne 7, 3) := by decide +kernel
theorem dX9_twos_54 : decode cX9_twos 54 = .ok (.iconst 1, 1) := by decide +kernel
theorem dX9_twos_55 : decode cX9_twos 55 = .ok (.goto 4, 3) := by decide +kernel
theorem dX9_twos_58 : decode cX9_twos 58 = .ok (.iconst 0, 1) := by decide +kernel
theorem dX9_twos_59 : decode cX9_twos 59 = .ok (.iadd, 1) := by decide +kernel
theorem dX9_twos_60 : decode cX9_twos 60 = .ok (.istore_n 1, 1) := by decide +kernel
theorem dX9_twos_61 : decode cX9_twos 61 = .ok (.iinc 2 1, 3) := by decide +kernel
theorem dX9_twos_64 : decode cX9_twos 64 = .ok (.goto (-60), 3) := by decide +kernel
theorem dX9_twos_67 : decode cX9_twos 67 = .ok (.iload_n 1, 1) := by decide +kernel
theorem dX9_twos_68 : decode cX9_twos 68 = .ok (.ireturn, 1) := by decide +kernel
theorem dX9_costs_0 : decode cX9_costs 0 = .ok (.iconst 0, 1) := by decide +kernel
theorem dX9_costs_1 : decode cX9_costs 1 = .ok (.istore_n 2, 1) := by decide +kernel
theorem dX9_costs_2 : decode cX9_costs 2 = .ok (.iload_n 2, 1) := by decide +kernel
theorem dX9_costs_3 : decode cX9_costs 3 = .ok (.sipush 368, 3) := by decide +kernel
theorem dX9_costs_6 : decode cX9_costs 6 = .ok (.if_icmp .ge 21, 3) := by decide +kernel
theorem dX9_costs_9 : decode cX9_costs 9 = .ok (.aload_n 0, 1) := by decide +kernel
theorem dX9_costs_10 : decode cX9_costs 10 = .ok (.getfield 38, 3) := by decide +kernel
theorem dX9_costs_13 : decode cX9_costs 13 = .ok (.iload_n 2, 1) := by decide +kernel
theorem dX9_costs_14 : decode cX9_costs 14 = .ok (.aload_n 0, 1) := by decide +kernel
theorem dX9_costs_15 : decode cX9_costs 15 = .ok (.getfield 7, 3) := by decide +kernel
theorem dX9_costs_18 : decode cX9_costs 18 = .ok (.iload_n 2, 1) := by decide +kernel
theorem dX9_costs_19 : decode cX9_costs 19 = .ok (.iaload, 1) := by decide +kernel
theorem dX9_costs_20 : decode cX9_costs 20 = .ok (.iastore, 1) := by decide +kernel
theorem dX9_costs_21 : decode cX9_costs 21 = .ok (.iinc 2 1, 3) := by decide +kernel
theorem dX9_costs_24 : decode cX9_costs 24 = .ok (.goto (-22), 3) := by decide +kernel
theorem dX9_costs_27 : decode cX9_costs 27 = .ok (.aload_n 0, 1) := by decide +kernel
theorem dX9_costs_28 : decode cX9_costs 28 = .ok (.aload_n 0, 1) := by decide +kernel
theorem dX9_costs_29 : decode cX9_costs 29 = .ok (.iload_n 1, 1) := by decide +kernel
theorem dX9_costs_30 : decode cX9_costs 30 = .ok (.invokevirtual 134, 3) := by decide +kernel
theorem dX9_costs_33 : decode cX9_costs 33 = .ok (.invokevirtual 137, 3) := by decide +kernel
theorem dX9_costs_36 : decode cX9_costs 36 = .ok (.aload_n 0, 1) := by decide +kernel
theorem dX9_costs_37 : decode cX9_costs 37 = .ok (.getfield 7, 3) := by decide +kernel
theorem dX9_costs_40 : decode cX9_costs 40 = .ok (.sipush 365, 3) := by decide +kernel
theorem dX9_costs_43 : decode cX9_costs 43 = .ok (.iaload, 1) := by decide +kernel
theorem dX9_costs_44 : decode cX9_costs 44 = .ok (.aload_n 0, 1) := by decide +kernel
theorem dX9_costs_45 : decode cX9_costs 45 = .ok (.getfield 7, 3) := by decide +kernel
theorem dX9_costs_48 : decode cX9_costs 48 = .ok (.sipush 366, 3) := by decide +kernel
theorem dX9_costs_51 : decode cX9_costs 51 = .ok (.iaload, 1) := by decide +kernel
theorem dX9_costs_52 : decode cX9_costs 52 = .ok (.iadd, 1) := by decide +kernel
theorem dX9_costs_53 : decode cX9_costs 53 = .ok (.aload_n 0, 1) := by decide +kernel
theorem dX9_costs_54 : decode cX9_costs 54 = .ok (.getfield 7, 3) := by decide +kernel
theorem dX9_costs_57 : decode cX9_costs 57 = .ok (.sipush 367, 3) := by decide +kernel
theorem dX9_costs_60 : decode cX9_costs 60 = .ok (.iaload, 1) := by decide +kernel
theorem dX9_costs_61 : decode cX9_costs 61 = .ok (.iadd, 1) := by decide +kernel
theorem dX9_costs_62 : decode cX9_costs 62 = .ok (.istore_n 2, 1) := by decide +kernel
theorem dX9_costs_63 : decode cX9_costs 63 = .ok (.iconst 0, 1) := by decide +kernel
theorem dX9_costs_64 : decode cX9_costs 64 = .ok (.istore_n 3, 1) := by decide +kernel
theorem dX9_costs_65 : decode cX9_costs 65 = .ok (.iload_n 3, 1) := by decide +kernel
theorem dX9_costs_66 : decode cX9_costs 66 = .ok (.sipush 368, 3) := by decide +kernel
theorem dX9_costs_69 : decode cX9_costs 69 = .ok (.if_icmp .ge 21, 3) := by decide +kernel
theorem dX9_costs_72 : decode cX9_costs 72 = .ok (.aload_n 0, 1) := by decide +kernel
theorem dX9_costs_73 : decode cX9_costs 73 = .ok (.getfield 7, 3) := by decide +kernel
theorem dX9_costs_76 : decode cX9_costs 76 = .ok (.iload_n 3, 1) := by decide +kernel
theorem dX9_costs_77 : decode cX9_costs 77 = .ok (.aload_n 0, 1) := by decide +kernel
theorem dX9_costs_78 : decode cX9_costs 78 = .ok (.getfield 38, 3) := by decide +kernel
theorem dX9_costs_81 : decode cX9_costs 81 = .ok (.iload_n 3, 1) := by decide +kernel
theorem dX9_costs_82 : decode cX9_costs 82 = .ok (.iaload, 1) := by decide +kernel
theorem dX9_costs_83 : decode cX9_costs 83 = .ok (.iastore, 1) := by decide +kernel
theorem dX9_costs_84 : decode cX9_costs 84 = .ok (.iinc 3 1, 3) := by decide +kernel
theorem dX9_costs_87 : decode cX9_costs 87 = .ok (.goto (-22), 3) := by decide +kernel
theorem dX9_costs_90 : decode cX9_costs 90 = .ok (.iload_n 2, 1) := by decide +kernel
theorem dX9_costs_91 : decode cX9_costs 91 = .ok (.ireturn, 1) := by decide +kernel
theorem dX9_costly_0 : decode cX9_costly 0 = .ok (.iconst (-1), 1) := by decide +kernel
theorem dX9_costly_1 : decode cX9_costly 1 = .ok (.istore_n 1, 1) := by decide +kernel
theorem dX9_costly_2 : decode cX9_costly 2 = .ok (.iconst (-1), 1) := by decide +kernel
theorem dX9_costly_3 : decode cX9_costly 3 = .ok (.istore_n 2, 1) := by decide +kernel
theorem dX9_costly_4 : decode cX9_costly 4 = .ok (.aload_n 0, 1) := by decide +kernel
theorem dX9_costly_5 : decode cX9_costly 5 = .ok (.iconst (-1), 1) := by decide +kernel
theorem dX9_costly_6 : decode cX9_costly 6 = .ok (.iconst 0, 1) := by decide +kernel
theorem dX9_costly_7 : decode cX9_costly 7 = .ok (.invokevirtual 140, 3) := by decide +kernel
theorem dX9_costly_10 : decode cX9_costly 10 = .ok (.istore_n 3, 1) := by decide +kernel
theorem dX9_costly_11 : decode cX9_costly 11 = .ok (.iload_n 3, 1) := by decide +kernel
theorem dX9_costly_12 : decode cX9_costly 12 = .ok (.iconst (-1), 1) := by decide +kernel
theorem dX9_costly_13 : decode cX9_costly 13 = .ok (.if_icmp .eq 45, 3) := by decide +kernel
theorem dX9_costly_16 : decode cX9_costly 16 = .ok (.aload_n 0, 1) := by decide +kernel
theorem dX9_costly_17 : decode cX9_costly 17 = .ok (.iload_n 3, 1) := by decide +kernel
theorem dX9_costly_18 : decode cX9_costly 18 = .ok (.invokevirtual 143, 3) := by decide +kernel
theorem dX9_costly_21 : decode cX9_costly 21 = .ok (.istore 4, 2) := by decide +kernel
theorem dX9_costly_23 : decode cX9_costly 23 = .ok (.iload 4, 2) := by decide +kernel
theorem dX9_costly_25 : decode cX9_costly 25 = .ok (.iload_n 2, 1) := by decide +kernel
theorem dX9_costly_26 : decode cX9_costly 26 = .ok (.if_icmp .le 7, 3) := by decide +kernel
theorem dX9_costly_29 : decode cX9_costly 29 = .ok (.iload_n 3, 1) := by decide +kernel
theorem dX9_costly_30 : decode cX9_costly 30 = .ok (.goto 4, 3) := by decide +kernel
theorem dX9_costly_33 : decode cX9_costly 33 = .ok (.iload_n 1, 1) := by decide +kernel
theorem dX9_costly_34 : decode cX9_costly 34 = .ok (.istore_n 1, 1) := by decide +kernel
theorem dX9_costly_35 : decode cX9_costly 35 = .ok (.iload 4, 2) := by decide +kernel
theorem dX9_costly_37 : decode cX9_costly 37 = .ok (.iload_n 2, 1) := by decide +kernel
theorem dX9_costly_38 : decode cX9_costly 38 = .ok (.if_icmp .le 8, 3) := by decide +kernel
theorem dX9_costly_41 : decode cX9_costly 41 = .ok (.iload 4, 2) := by decide +kernel
theorem dX9_costly_43 : decode cX9_costly 43 = .ok (.goto 4, 3) := by decide +kernel
theorem dX9_costly_46 : decode cX9_costly 46 = .ok (.iload_n 2, 1) := by decide +kernel
theorem dX9_costly_47 : decode cX9_costly 47 = .ok (.istore_n 2, 1) := by decide +kernel
theorem dX9_costly_48 : decode cX9_costly 48 = .ok (.aload_n 0, 1) := by decide +kernel
theorem dX9_costly_49 : decode cX9_costly 49 = .ok (.iload_n 3, 1) := by decide +kernel
theorem dX9_costly_50 : decode cX9_costly 50 = .ok (.iconst 0, 1) := by decide +kernel
theorem dX9_costly_51 : decode cX9_costly 51 = .ok (.invokevirtual 140, 3) := by decide +kernel
theorem dX9_costly_54 : decode cX9_costly 54 = .ok (.istore_n 3, 1) := by decide +kernel
theorem dX9_costly_55 : decode cX9_costly 55 = .ok (.goto (-44), 3) := by decide +kernel
theorem dX9_costly_58 : decode cX9_costly 58 = .ok (.iload_n 1, 1) := by decide +kernel
theorem dX9_costly_59 : decode cX9_costly 59 = .ok (.ireturn, 1) := by decide +kernel
theorem dX9_flat_0 : decode cX9_flat 0 = .ok (.iconst 0, 1) := by decide +kernel
theorem dX9_flat_1 : decode cX9_flat 1 = .ok (.istore_n 1, 1) := by decide +kernel
theorem dX9_flat_2 : decode cX9_flat 2 = .ok (.iconst 1, 1) := by decide +kernel
theorem dX9_flat_3 : decode cX9_flat 3 = .ok (.iload_n 1, 1) := by decide +kernel
theorem dX9_flat_4 : decode cX9_flat 4 = .ok (.ishl, 1) := by decide +kernel
theorem dX9_flat_5 : decode cX9_flat 5 = .ok (.iconst 1, 1) := by decide +kernel
theorem dX9_flat_6 : decode cX9_flat 6 = .ok (.isub, 1) := by decide +kernel
theorem dX9_flat_7 : decode cX9_flat 7 = .ok (.aload_n 0, 1) := by decide +kernel
theorem dX9_flat_8 : decode cX9_flat 8 = .ok (.invokevirtual 128, 3) := by decide +kernel
theorem dX9_flat_11 : decode cX9_flat 11 = .ok (.if_icmp .ge 9, 3) := by decide +kernel
theorem dX9_flat_14 : decode cX9_flat 14 = .ok (.iinc 1 1, 3) := by decide +kernel
theorem dX9_flat_17 : decode cX9_flat 17 = .ok (.goto (-15), 3) := by decide +kernel
theorem dX9_flat_20 : decode cX9_flat 20 = .ok (.iload_n 1, 1) := by decide +kernel
theorem dX9_flat_21 : decode cX9_flat 21 = .ok (.ireturn, 1) := by decide +kernel
theorem dX9_lesser_0 : decode cX9_lesser 0 = .ok (.iload_n 0, 1) := by decide +kernel
theorem dX9_lesser_1 : decode cX9_lesser 1 = .ok (.iload_n 1, 1) := by decide +kernel
theorem dX9_lesser_2 : decode cX9_lesser 2 = .ok (.if_icmp .ge 7, 3) := by decide +kernel
theorem dX9_lesser_5 : decode cX9_lesser 5 = .ok (.iload_n 0, 1) := by decide +kernel
theorem dX9_lesser_6 : decode cX9_lesser 6 = .ok (.goto 4, 3) := by decide +kernel
theorem dX9_lesser_9 : decode cX9_lesser 9 = .ok (.iload_n 1, 1) := by decide +kernel
theorem dX9_lesser_10 : decode cX9_lesser 10 = .ok (.ireturn, 1) := by decide +kernel
theorem dX9_tall_0 : decode cX9_tall 0 = .ok (.aload_n 0, 1) := by decide +kernel
theorem dX9_tall_1 : decode cX9_tall 1 = .ok (.getfield 41, 3) := by decide +kernel
theorem dX9_tall_4 : decode cX9_tall 4 = .ok (.iconst 0, 1) := by decide +kernel
theorem dX9_tall_5 : decode cX9_tall 5 = .ok (.iconst 0, 1) := by decide +kernel
theorem dX9_tall_6 : decode cX9_tall 6 = .ok (.iastore, 1) := by decide +kernel
theorem dX9_tall_7 : decode cX9_tall 7 = .ok (.aload_n 0, 1) := by decide +kernel
theorem dX9_tall_8 : decode cX9_tall 8 = .ok (.getfield 41, 3) := by decide +kernel
theorem dX9_tall_11 : decode cX9_tall 11 = .ok (.iconst 1, 1) := by decide +kernel
theorem dX9_tall_12 : decode cX9_tall 12 = .ok (.iconst 1, 1) := by decide +kernel
theorem dX9_tall_13 : decode cX9_tall 13 = .ok (.iastore, 1) := by decide +kernel
theorem dX9_tall_14 : decode cX9_tall 14 = .ok (.aload_n 0, 1) := by decide +kernel
theorem dX9_tall_15 : decode cX9_tall 15 = .ok (.getfield 41, 3) := by decide +kernel
theorem dX9_tall_18 : decode cX9_tall 18 = .ok (.iconst 2, 1) := by decide +kernel
theorem dX9_tall_19 : decode cX9_tall 19 = .ok (.iconst 2, 1) := by decide +kernel
theorem dX9_tall_20 : decode cX9_tall 20 = .ok (.iastore, 1) := by decide +kernel
theorem dX9_tall_21 : decode cX9_tall 21 = .ok (.iconst 3, 1) := by decide +kernel
theorem dX9_tall_22 : decode cX9_tall 22 = .ok (.istore_n 1, 1) := by decide +kernel
theorem dX9_tall_23 : decode cX9_tall 23 = .ok (.iload_n 1, 1) := by decide +kernel
theorem dX9_tall_24 : decode cX9_tall 24 = .ok (.bipush 32, 2) := by decide +kernel
theorem dX9_tall_26 : decode cX9_tall 26 = .ok (.if_icmp .ge 57, 3) := by decide +kernel
theorem dX9_tall_29 : decode cX9_tall 29 = .ok (.aload_n 0, 1) := by decide +kernel
theorem dX9_tall_30 : decode cX9_tall 30 = .ok (.getfield 41, 3) := by decide +kernel
theorem dX9_tall_33 : decode cX9_tall 33 = .ok (.iload_n 1, 1) := by decide +kernel
theorem dX9_tall_34 : decode cX9_tall 34 = .ok (.iconst 1, 1) := by decide +kernel
theorem dX9_tall_35 : decode cX9_tall 35 = .ok (.iconst 2, 1) := by decide +kernel
theorem dX9_tall_36 : decode cX9_tall 36 = .ok (.aload_n 0, 1) := by decide +kernel
theorem dX9_tall_37 : decode cX9_tall 37 = .ok (.getfield 41, 3) := by decide +kernel
theorem dX9_tall_40 : decode cX9_tall 40 = .ok (.iload_n 1, 1) := by decide +kernel
theorem dX9_tall_41 : decode cX9_tall 41 = .ok (.iconst 2, 1) := by decide +kernel
theorem dX9_tall_42 : decode cX9_tall 42 = .ok (.isub, 1) := by decide +kernel
theorem dX9_tall_43 : decode cX9_tall 43 = .ok (.iaload, 1) := by decide +kernel
theorem dX9_tall_44 : decode cX9_tall 44 = .ok (.imul, 1) := by decide +kernel
theorem dX9_tall_45 : decode cX9_tall 45 = .ok (.iadd, 1) := by decide +kernel
theorem dX9_tall_46 : decode cX9_tall 46 = .ok (.iastore, 1) := by decide +kernel
theorem dX9_tall_47 : decode cX9_tall 47 = .ok (.aload_n 0, 1) := by decide +kernel
theorem dX9_tall_48 : decode cX9_tall 48 = .ok (.getfield 41, 3) := by decide +kernel
theorem dX9_tall_51 : decode cX9_tall 51 = .ok (.iload_n 1, 1) := by decide +kernel
theorem dX9_tall_52 : decode cX9_tall 52 = .ok (.aload_n 0, 1) := by decide +kernel
theorem dX9_tall_53 : decode cX9_tall 53 = .ok (.getfield 41, 3) := by decide +kernel
theorem dX9_tall_56 : decode cX9_tall 56 = .ok (.iload_n 1, 1) := by decide +kernel
theorem dX9_tall_57 : decode cX9_tall 57 = .ok (.iaload, 1) := by decide +kernel
theorem dX9_tall_58 : decode cX9_tall 58 = .ok (.sipush 1000, 3) := by decide +kernel
theorem dX9_tall_61 : decode cX9_tall 61 = .ok (.if_icmp .le 9, 3) := by decide +kernel
theorem dX9_tall_64 : decode cX9_tall 64 = .ok (.sipush 1000, 3) := by decide +kernel
theorem dX9_tall_67 : decode cX9_tall 67 = .ok (.goto 9, 3) := by decide +kernel
theorem dX9_tall_70 : decode cX9_tall 70 = .ok (.aload_n 0, 1) := by decide +kernel
theorem dX9_tall_71 : decode cX9_tall 71 = .ok (.getfield 41, 3) := by decide +kernel
theorem dX9_tall_74 : decode cX9_tall 74 = .ok (.iload_n 1, 1) := by decide +kernel
theorem dX9_tall_75 : decode cX9_tall 75 = .ok (.iaload, 1) := by decide +kernel
theorem dX9_tall_76 : decode cX9_tall 76 = .ok (.iastore, 1) := by decide +kernel
theorem dX9_tall_77 : decode cX9_tall 77 = .ok (.iinc 1 1, 3) := by decide +kernel
theorem dX9_tall_80 : decode cX9_tall 80 = .ok (.goto (-57), 3) := by decide +kernel
theorem dX9_tall_83 : decode cX9_tall 83 = .ok (.iconst 0, 1) := by decide +kernel
theorem dX9_tall_84 : decode cX9_tall 84 = .ok (.istore_n 1, 1) := by decide +kernel
theorem dX9_tall_85 : decode cX9_tall 85 = .ok (.iconst 1, 1) := by decide +kernel
theorem dX9_tall_86 : decode cX9_tall 86 = .ok (.istore_n 2, 1) := by decide +kernel
theorem dX9_tall_87 : decode cX9_tall 87 = .ok (.iload_n 2, 1) := by decide +kernel
theorem dX9_tall_88 : decode cX9_tall 88 = .ok (.bipush 20, 2) := by decide +kernel
theorem dX9_tall_90 : decode cX9_tall 90 = .ok (.if_icmp .ge 195, 3) := by decide +kernel
theorem dX9_tall_93 : decode cX9_tall 93 = .ok (.sipush 1000, 3) := by decide +kernel
theorem dX9_tall_96 : decode cX9_tall 96 = .ok (.istore_n 3, 1) := by decide +kernel
theorem dX9_tall_97 : decode cX9_tall 97 = .ok (.iconst 0, 1) := by decide +kernel
theorem dX9_tall_98 : decode cX9_tall 98 = .ok (.istore 4, 2) := by decide +kernel
theorem dX9_tall_100 : decode cX9_tall 100 = .ok (.iload 4, 2) := by decide +kernel
theorem dX9_tall_102 : decode cX9_tall 102 = .ok (.bipush 30, 2) := by decide +kernel
theorem dX9_tall_104 : decode cX9_tall 104 = .ok (.if_icmp .ge 161, 3) := by decide +kernel
theorem dX9_tall_107 : decode cX9_tall 107 = .ok (.iload_n 2, 1) := by decide +kernel
theorem dX9_tall_108 : decode cX9_tall 108 = .ok (.iconst 1, 1) := by decide +kernel
theorem dX9_tall_109 : decode cX9_tall 109 = .ok (.if_icmp .ne 9, 3) := by decide +kernel
theorem dX9_tall_112 : decode cX9_tall 112 = .ok (.sipush 1000, 3) := by decide +kernel
theorem dX9_tall_115 : decode cX9_tall 115 = .ok (.goto 61, 3) := by decide +kernel
theorem dX9_tall_118 : decode cX9_tall 118 = .ok (.iload 4, 2) := by decide +kernel
theorem dX9_tall_120 : decode cX9_tall 120 = .ok (.ifCond .le 22, 3) := by decide +kernel
theorem dX9_tall_123 : decode cX9_tall 123 = .ok (.aload_n 0, 1) := by decide +kernel
theorem dX9_tall_124 : decode cX9_tall 124 = .ok (.getfield 44, 3) := by decide +kernel
theorem dX9_tall_127 : decode cX9_tall 127 = .ok (.bipush 32, 2) := by decide +kernel
theorem dX9_tall_129 : decode cX9_tall 129 = .ok (.iload_n 2, 1) := by decide +kernel
theorem dX9_tall_130 : decode cX9_tall 130 = .ok (.iconst 1, 1) := by decide +kernel
theorem dX9_tall_131 : decode cX9_tall 131 = .ok (.isub, 1) := by decide +kernel
theorem dX9_tall_132 : decode cX9_tall 132 = .ok (.imul, 1) := by decide +kernel
theorem dX9_tall_133 : decode cX9_tall 133 = .ok (.iload 4, 2) := by decide +kernel
theorem dX9_tall_135 : decode cX9_tall 135 = .ok (.iadd, 1) := by decide +kernel
theorem dX9_tall_136 : decode cX9_tall 136 = .ok (.iconst 1, 1) := by decide +kernel
theorem dX9_tall_137 : decode cX9_tall 137 = .ok (.isub, 1) := by decide +kernel
theorem dX9_tall_138 : decode cX9_tall 138 = .ok (.iaload, 1) := by decide +kernel
theorem dX9_tall_139 : decode cX9_tall 139 = .ok (.goto 6, 3) := by decide +kernel
theorem dX9_tall_142 : decode cX9_tall 142 = .ok (.sipush 1000, 3) := by decide +kernel
theorem dX9_tall_145 : decode cX9_tall 145 = .ok (.iload 4, 2) := by decide +kernel
theorem dX9_tall_147 : decode cX9_tall 147 = .ok (.iconst 1, 1) := by decide +kernel
theorem dX9_tall_148 : decode cX9_tall 148 = .ok (.if_icmp .le 22, 3) := by decide +kernel
theorem dX9_tall_151 : decode cX9_tall 151 = .ok (.aload_n 0, 1) := by decide +kernel
theorem dX9_tall_152 : decode cX9_tall 152 = .ok (.getfield 44, 3) := by decide +kernel
theorem dX9_tall_155 : decode cX9_tall 155 = .ok (.bipush 32, 2) := by decide +kernel
theorem dX9_tall_157 : decode cX9_tall 157 = .ok (.iload_n 2, 1) := by decide +kernel
theorem dX9_tall_158 : decode cX9_tall 158 = .ok (.iconst 1, 1) := by decide +kernel
theorem dX9_tall_159 : decode cX9_tall 159 = .ok (.isub, 1) := by decide +kernel
theorem dX9_tall_160 : decode cX9_tall 160 = .ok (.imul, 1) := by decide +kernel
theorem dX9_tall_161 : decode cX9_tall 161 = .ok (.iload 4, 2) := by decide +kernel
