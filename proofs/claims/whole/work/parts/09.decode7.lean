theorem dX9_tall_163 : decode cX9_tall 163 = .ok (.iadd, 1) := by decide +kernel
theorem dX9_tall_164 : decode cX9_tall 164 = .ok (.iconst 2, 1) := by decide +kernel
theorem dX9_tall_165 : decode cX9_tall 165 = .ok (.isub, 1) := by decide +kernel
theorem dX9_tall_166 : decode cX9_tall 166 = .ok (.iaload, 1) := by decide +kernel
theorem dX9_tall_167 : decode cX9_tall 167 = .ok (.goto 6, 3) := by decide +kernel
theorem dX9_tall_170 : decode cX9_tall 170 = .ok (.sipush 1000, 3) := by decide +kernel
theorem dX9_tall_173 : decode cX9_tall 173 = .ok (.invokestatic 146, 3) := by decide +kernel
theorem dX9_tall_176 : decode cX9_tall 176 = .ok (.istore 5, 2) := by decide +kernel
theorem dX9_tall_178 : decode cX9_tall 178 = .ok (.iload 4, 2) := by decide +kernel
theorem dX9_tall_180 : decode cX9_tall 180 = .ok (.iconst 1, 1) := by decide +kernel
theorem dX9_tall_181 : decode cX9_tall 181 = .ok (.if_icmp .le 15, 3) := by decide +kernel
theorem dX9_tall_184 : decode cX9_tall 184 = .ok (.aload_n 0, 1) := by decide +kernel
theorem dX9_tall_185 : decode cX9_tall 185 = .ok (.getfield 41, 3) := by decide +kernel
theorem dX9_tall_188 : decode cX9_tall 188 = .ok (.iload 4, 2) := by decide +kernel
theorem dX9_tall_190 : decode cX9_tall 190 = .ok (.iconst 1, 1) := by decide +kernel
theorem dX9_tall_191 : decode cX9_tall 191 = .ok (.isub, 1) := by decide +kernel
theorem dX9_tall_192 : decode cX9_tall 192 = .ok (.iaload, 1) := by decide +kernel
theorem dX9_tall_193 : decode cX9_tall 193 = .ok (.goto 4, 3) := by decide +kernel
theorem dX9_tall_196 : decode cX9_tall 196 = .ok (.iconst 0, 1) := by decide +kernel
theorem dX9_tall_197 : decode cX9_tall 197 = .ok (.istore 6, 2) := by decide +kernel
theorem dX9_tall_199 : decode cX9_tall 199 = .ok (.iload_n 2, 1) := by decide +kernel
theorem dX9_tall_200 : decode cX9_tall 200 = .ok (.iconst 1, 1) := by decide +kernel
theorem dX9_tall_201 : decode cX9_tall 201 = .ok (.if_icmp .ne 12, 3) := by decide +kernel
theorem dX9_tall_204 : decode cX9_tall 204 = .ok (.iload 4, 2) := by decide +kernel
theorem dX9_tall_206 : decode cX9_tall 206 = .ok (.ifCond .ne 7, 3) := by decide +kernel
theorem dX9_tall_209 : decode cX9_tall 209 = .ok (.iconst 1, 1) := by decide +kernel
theorem dX9_tall_210 : decode cX9_tall 210 = .ok (.goto 10, 3) := by decide +kernel
theorem dX9_tall_213 : decode cX9_tall 213 = .ok (.iconst 1, 1) := by decide +kernel
theorem dX9_tall_214 : decode cX9_tall 214 = .ok (.iload 5, 2) := by decide +kernel
theorem dX9_tall_216 : decode cX9_tall 216 = .ok (.iadd, 1) := by decide +kernel
theorem dX9_tall_217 : decode cX9_tall 217 = .ok (.iload 6, 2) := by decide +kernel
theorem dX9_tall_219 : decode cX9_tall 219 = .ok (.iadd, 1) := by decide +kernel
theorem dX9_tall_220 : decode cX9_tall 220 = .ok (.istore 7, 2) := by decide +kernel
theorem dX9_tall_222 : decode cX9_tall 222 = .ok (.aload_n 0, 1) := by decide +kernel
theorem dX9_tall_223 : decode cX9_tall 223 = .ok (.getfield 44, 3) := by decide +kernel
theorem dX9_tall_226 : decode cX9_tall 226 = .ok (.bipush 32, 2) := by decide +kernel
theorem dX9_tall_228 : decode cX9_tall 228 = .ok (.iload_n 2, 1) := by decide +kernel
theorem dX9_tall_229 : decode cX9_tall 229 = .ok (.imul, 1) := by decide +kernel
theorem dX9_tall_230 : decode cX9_tall 230 = .ok (.iload 4, 2) := by decide +kernel
theorem dX9_tall_232 : decode cX9_tall 232 = .ok (.iadd, 1) := by decide +kernel
theorem dX9_tall_233 : decode cX9_tall 233 = .ok (.iload 7, 2) := by decide +kernel
theorem dX9_tall_235 : decode cX9_tall 235 = .ok (.sipush 1000, 3) := by decide +kernel
theorem dX9_tall_238 : decode cX9_tall 238 = .ok (.invokestatic 146, 3) := by decide +kernel
theorem dX9_tall_241 : decode cX9_tall 241 = .ok (.iastore, 1) := by decide +kernel
theorem dX9_tall_242 : decode cX9_tall 242 = .ok (.iload_n 3, 1) := by decide +kernel
theorem dX9_tall_243 : decode cX9_tall 243 = .ok (.aload_n 0, 1) := by decide +kernel
theorem dX9_tall_244 : decode cX9_tall 244 = .ok (.getfield 44, 3) := by decide +kernel
theorem dX9_tall_247 : decode cX9_tall 247 = .ok (.bipush 32, 2) := by decide +kernel
theorem dX9_tall_249 : decode cX9_tall 249 = .ok (.iload_n 2, 1) := by decide +kernel
theorem dX9_tall_250 : decode cX9_tall 250 = .ok (.imul, 1) := by decide +kernel
theorem dX9_tall_251 : decode cX9_tall 251 = .ok (.iload 4, 2) := by decide +kernel
theorem dX9_tall_253 : decode cX9_tall 253 = .ok (.iadd, 1) := by decide +kernel
theorem dX9_tall_254 : decode cX9_tall 254 = .ok (.iaload, 1) := by decide +kernel
theorem dX9_tall_255 : decode cX9_tall 255 = .ok (.invokestatic 146, 3) := by decide +kernel
theorem dX9_tall_258 : decode cX9_tall 258 = .ok (.istore_n 3, 1) := by decide +kernel
theorem dX9_tall_259 : decode cX9_tall 259 = .ok (.iinc 4 1, 3) := by decide +kernel
theorem dX9_tall_262 : decode cX9_tall 262 = .ok (.goto (-162), 3) := by decide +kernel
theorem dX9_tall_265 : decode cX9_tall 265 = .ok (.iload_n 3, 1) := by decide +kernel
theorem dX9_tall_266 : decode cX9_tall 266 = .ok (.aload_n 0, 1) := by decide +kernel
theorem dX9_tall_267 : decode cX9_tall 267 = .ok (.invokevirtual 128, 3) := by decide +kernel
theorem dX9_tall_270 : decode cX9_tall 270 = .ok (.if_icmp .gt 7, 3) := by decide +kernel
theorem dX9_tall_273 : decode cX9_tall 273 = .ok (.iload_n 2, 1) := by decide +kernel
theorem dX9_tall_274 : decode cX9_tall 274 = .ok (.goto 4, 3) := by decide +kernel
theorem dX9_tall_277 : decode cX9_tall 277 = .ok (.iload_n 1, 1) := by decide +kernel
theorem dX9_tall_278 : decode cX9_tall 278 = .ok (.istore_n 1, 1) := by decide +kernel
theorem dX9_tall_279 : decode cX9_tall 279 = .ok (.iinc 2 1, 3) := by decide +kernel
theorem dX9_tall_282 : decode cX9_tall 282 = .ok (.goto (-195), 3) := by decide +kernel
theorem dX9_tall_285 : decode cX9_tall 285 = .ok (.iload_n 1, 1) := by decide +kernel
theorem dX9_tall_286 : decode cX9_tall 286 = .ok (.ireturn, 1) := by decide +kernel
theorem dX9_told_0 : decode cX9_told 0 = .ok (.iload_n 1, 1) := by decide +kernel
theorem dX9_told_1 : decode cX9_told 1 = .ok (.tableswitch 174 0 16 #[83, 88, 110, 119, 124, 130, 130, 130, 130, 130, 130, 143, 149, 154, 159, 164, 169], 83) := by decide +kernel
theorem dX9_told_84 : decode cX9_told 84 = .ok (.aload_n 0, 1) := by decide +kernel
theorem dX9_told_85 : decode cX9_told 85 = .ok (.invokevirtual 128, 3) := by decide +kernel
theorem dX9_told_88 : decode cX9_told 88 = .ok (.ireturn, 1) := by decide +kernel
theorem dX9_told_89 : decode cX9_told 89 = .ok (.aload_n 0, 1) := by decide +kernel
theorem dX9_told_90 : decode cX9_told 90 = .ok (.invokevirtual 87, 3) := by decide +kernel
theorem dX9_told_93 : decode cX9_told 93 = .ok (.iconst (-1), 1) := by decide +kernel
theorem dX9_told_94 : decode cX9_told 94 = .ok (.if_icmp .ne 7, 3) := by decide +kernel
theorem dX9_told_97 : decode cX9_told 97 = .ok (.iconst (-1), 1) := by decide +kernel
theorem dX9_told_98 : decode cX9_told 98 = .ok (.goto 12, 3) := by decide +kernel
theorem dX9_told_101 : decode cX9_told 101 = .ok (.aload_n 0, 1) := by decide +kernel
theorem dX9_told_102 : decode cX9_told 102 = .ok (.aload_n 0, 1) := by decide +kernel
theorem dX9_told_103 : decode cX9_told 103 = .ok (.invokevirtual 87, 3) := by decide +kernel
theorem dX9_told_106 : decode cX9_told 106 = .ok (.iconst 0, 1) := by decide +kernel
theorem dX9_told_107 : decode cX9_told 107 = .ok (.invokevirtual 63, 3) := by decide +kernel
theorem dX9_told_110 : decode cX9_told 110 = .ok (.ireturn, 1) := by decide +kernel
theorem dX9_told_111 : decode cX9_told 111 = .ok (.aload_n 0, 1) := by decide +kernel
theorem dX9_told_112 : decode cX9_told 112 = .ok (.aload_n 0, 1) := by decide +kernel
theorem dX9_told_113 : decode cX9_told 113 = .ok (.invokevirtual 87, 3) := by decide +kernel
theorem dX9_told_116 : decode cX9_told 116 = .ok (.invokevirtual 83, 3) := by decide +kernel
theorem dX9_told_119 : decode cX9_told 119 = .ok (.ireturn, 1) := by decide +kernel
theorem dX9_told_120 : decode cX9_told 120 = .ok (.aload_n 0, 1) := by decide +kernel
theorem dX9_told_121 : decode cX9_told 121 = .ok (.invokevirtual 149, 3) := by decide +kernel
theorem dX9_told_124 : decode cX9_told 124 = .ok (.ireturn, 1) := by decide +kernel
theorem dX9_told_125 : decode cX9_told 125 = .ok (.aload_n 0, 1) := by decide +kernel
theorem dX9_told_126 : decode cX9_told 126 = .ok (.iconst 1, 1) := by decide +kernel
theorem dX9_told_127 : decode cX9_told 127 = .ok (.invokevirtual 152, 3) := by decide +kernel
theorem dX9_told_130 : decode cX9_told 130 = .ok (.ireturn, 1) := by decide +kernel
theorem dX9_told_131 : decode cX9_told 131 = .ok (.aload_n 0, 1) := by decide +kernel
theorem dX9_told_132 : decode cX9_told 132 = .ok (.getfield 7, 3) := by decide +kernel
theorem dX9_told_135 : decode cX9_told 135 = .ok (.sipush 362, 3) := by decide +kernel
theorem dX9_told_138 : decode cX9_told 138 = .ok (.iload_n 1, 1) := by decide +kernel
theorem dX9_told_139 : decode cX9_told 139 = .ok (.iadd, 1) := by decide +kernel
theorem dX9_told_140 : decode cX9_told 140 = .ok (.iconst 5, 1) := by decide +kernel
theorem dX9_told_141 : decode cX9_told 141 = .ok (.isub, 1) := by decide +kernel
theorem dX9_told_142 : decode cX9_told 142 = .ok (.iaload, 1) := by decide +kernel
theorem dX9_told_143 : decode cX9_told 143 = .ok (.ireturn, 1) := by decide +kernel
theorem dX9_told_144 : decode cX9_told 144 = .ok (.aload_n 0, 1) := by decide +kernel
theorem dX9_told_145 : decode cX9_told 145 = .ok (.iconst 2, 1) := by decide +kernel
theorem dX9_told_146 : decode cX9_told 146 = .ok (.invokevirtual 152, 3) := by decide +kernel
theorem dX9_told_149 : decode cX9_told 149 = .ok (.ireturn, 1) := by decide +kernel
theorem dX9_told_150 : decode cX9_told 150 = .ok (.aload_n 0, 1) := by decide +kernel
theorem dX9_told_151 : decode cX9_told 151 = .ok (.invokevirtual 155, 3) := by decide +kernel
theorem dX9_told_154 : decode cX9_told 154 = .ok (.ireturn, 1) := by decide +kernel
theorem dX9_told_155 : decode cX9_told 155 = .ok (.aload_n 0, 1) := by decide +kernel
theorem dX9_told_156 : decode cX9_told 156 = .ok (.invokevirtual 158, 3) := by decide +kernel
theorem dX9_told_159 : decode cX9_told 159 = .ok (.ireturn, 1) := by decide +kernel
theorem dX9_told_160 : decode cX9_told 160 = .ok (.aload_n 0, 1) := by decide +kernel
theorem dX9_told_161 : decode cX9_told 161 = .ok (.invokevirtual 161, 3) := by decide +kernel
theorem dX9_told_164 : decode cX9_told 164 = .ok (.ireturn, 1) := by decide +kernel
theorem dX9_told_165 : decode cX9_told 165 = .ok (.aload_n 0, 1) := by decide +kernel
theorem dX9_told_166 : decode cX9_told 166 = .ok (.invokevirtual 164, 3) := by decide +kernel
theorem dX9_told_169 : decode cX9_told 169 = .ok (.ireturn, 1) := by decide +kernel
theorem dX9_told_170 : decode cX9_told 170 = .ok (.aload_n 0, 1) := by decide +kernel
theorem dX9_told_171 : decode cX9_told 171 = .ok (.getfield 167, 3) := by decide +kernel
theorem dX9_told_174 : decode cX9_told 174 = .ok (.ireturn, 1) := by decide +kernel
theorem dX9_told_175 : decode cX9_told 175 = .ok (.ldc 171, 2) := by decide +kernel
theorem dX9_told_177 : decode cX9_told 177 = .ok (.ireturn, 1) := by decide +kernel
theorem dX9_isNode_0 : decode cX9_isNode 0 = .ok (.iload_n 1, 1) := by decide +kernel
theorem dX9_isNode_1 : decode cX9_isNode 1 = .ok (.i2l, 1) := by decide +kernel
theorem dX9_isNode_2 : decode cX9_isNode 2 = .ok (.lconst 0, 1) := by decide +kernel
theorem dX9_isNode_3 : decode cX9_isNode 3 = .ok (.aload_n 0, 1) := by decide +kernel
theorem dX9_isNode_4 : decode cX9_isNode 4 = .ok (.invokevirtual 128, 3) := by decide +kernel
theorem dX9_isNode_7 : decode cX9_isNode 7 = .ok (.iconst 1, 1) := by decide +kernel
theorem dX9_isNode_8 : decode cX9_isNode 8 = .ok (.isub, 1) := by decide +kernel
theorem dX9_isNode_9 : decode cX9_isNode 9 = .ok (.i2l, 1) := by decide +kernel
theorem dX9_isNode_10 : decode cX9_isNode 10 = .ok (.invokestatic 172, 3) := by decide +kernel
theorem dX9_isNode_13 : decode cX9_isNode 13 = .ok (.ireturn, 1) := by decide +kernel
theorem dX9_numberAt_0 : decode cX9_numberAt 0 = .ok (.iload_n 1, 1) := by decide +kernel
theorem dX9_numberAt_1 : decode cX9_numberAt 1 = .ok (.iconst (-1), 1) := by decide +kernel
theorem dX9_numberAt_2 : decode cX9_numberAt 2 = .ok (.if_icmp .ne 7, 3) := by decide +kernel
theorem dX9_numberAt_5 : decode cX9_numberAt 5 = .ok (.iconst (-1), 1) := by decide +kernel
theorem dX9_numberAt_6 : decode cX9_numberAt 6 = .ok (.goto 9, 3) := by decide +kernel
theorem dX9_numberAt_9 : decode cX9_numberAt 9 = .ok (.aload_n 0, 1) := by decide +kernel
theorem dX9_numberAt_10 : decode cX9_numberAt 10 = .ok (.getfield 29, 3) := by decide +kernel
theorem dX9_numberAt_13 : decode cX9_numberAt 13 = .ok (.iload_n 1, 1) := by decide +kernel
theorem dX9_numberAt_14 : decode cX9_numberAt 14 = .ok (.iaload, 1) := by decide +kernel
theorem dX9_numberAt_15 : decode cX9_numberAt 15 = .ok (.ireturn, 1) := by decide +kernel
theorem dX9_node_0 : decode cX9_node 0 = .ok (.aload_n 0, 1) := by decide +kernel
theorem dX9_node_1 : decode cX9_node 1 = .ok (.iload_n 1, 1) := by decide +kernel
theorem dX9_node_2 : decode cX9_node 2 = .ok (.invokevirtual 176, 3) := by decide +kernel
theorem dX9_node_5 : decode cX9_node 5 = .ok (.ifCond .ne 6, 3) := by decide +kernel
theorem dX9_node_8 : decode cX9_node 8 = .ok (.ldc 179, 2) := by decide +kernel
theorem dX9_node_10 : decode cX9_node 10 = .ok (.ireturn, 1) := by decide +kernel
theorem dX9_node_11 : decode cX9_node 11 = .ok (.aload_n 0, 1) := by decide +kernel
theorem dX9_node_12 : decode cX9_node 12 = .ok (.invokevirtual 131, 3) := by decide +kernel
theorem dX9_node_15 : decode cX9_node 15 = .ok (.aload_n 0, 1) := by decide +kernel
theorem dX9_node_16 : decode cX9_node 16 = .ok (.getfield 26, 3) := by decide +kernel
theorem dX9_node_19 : decode cX9_node 19 = .ok (.iload_n 1, 1) := by decide +kernel
theorem dX9_node_20 : decode cX9_node 20 = .ok (.iaload, 1) := by decide +kernel
theorem dX9_node_21 : decode cX9_node 21 = .ok (.istore_n 3, 1) := by decide +kernel
theorem dX9_node_22 : decode cX9_node 22 = .ok (.iload_n 2, 1) := by decide +kernel
theorem dX9_node_23 : decode cX9_node 23 = .ok (.tableswitch 103 0 6 #[41, 48, 55, 62, 62, 73, 79], 41) := by decide +kernel
theorem dX9_node_64 : decode cX9_node 64 = .ok (.aload_n 0, 1) := by decide +kernel
theorem dX9_node_65 : decode cX9_node 65 = .ok (.iload_n 3, 1) := by decide +kernel
theorem dX9_node_66 : decode cX9_node 66 = .ok (.iconst 0, 1) := by decide +kernel
theorem dX9_node_67 : decode cX9_node 67 = .ok (.invokevirtual 63, 3) := by decide +kernel
theorem dX9_node_70 : decode cX9_node 70 = .ok (.ireturn, 1) := by decide +kernel
theorem dX9_node_71 : decode cX9_node 71 = .ok (.aload_n 0, 1) := by decide +kernel
theorem dX9_node_72 : decode cX9_node 72 = .ok (.iload_n 3, 1) := by decide +kernel
theorem dX9_node_73 : decode cX9_node 73 = .ok (.iconst 2, 1) := by decide +kernel
theorem dX9_node_74 : decode cX9_node 74 = .ok (.invokevirtual 63, 3) := by decide +kernel
theorem dX9_node_77 : decode cX9_node 77 = .ok (.ireturn, 1) := by decide +kernel
theorem dX9_node_78 : decode cX9_node 78 = .ok (.aload_n 0, 1) := by decide +kernel
theorem dX9_node_79 : decode cX9_node 79 = .ok (.getfield 32, 3) := by decide +kernel
theorem dX9_node_82 : decode cX9_node 82 = .ok (.iload_n 3, 1) := by decide +kernel
theorem dX9_node_83 : decode cX9_node 83 = .ok (.iaload, 1) := by decide +kernel
theorem dX9_node_84 : decode cX9_node 84 = .ok (.ireturn, 1) := by decide +kernel
theorem dX9_node_85 : decode cX9_node 85 = .ok (.aload_n 0, 1) := by decide +kernel
theorem dX9_node_86 : decode cX9_node 86 = .ok (.aload_n 0, 1) := by decide +kernel
theorem dX9_node_87 : decode cX9_node 87 = .ok (.iload_n 3, 1) := by decide +kernel
theorem dX9_node_88 : decode cX9_node 88 = .ok (.iload_n 2, 1) := by decide +kernel
theorem dX9_node_89 : decode cX9_node 89 = .ok (.invokevirtual 63, 3) := by decide +kernel
theorem dX9_node_92 : decode cX9_node 92 = .ok (.invokevirtual 180, 3) := by decide +kernel
theorem dX9_node_95 : decode cX9_node 95 = .ok (.ireturn, 1) := by decide +kernel
theorem dX9_node_96 : decode cX9_node 96 = .ok (.aload_n 0, 1) := by decide +kernel
theorem dX9_node_97 : decode cX9_node 97 = .ok (.iload_n 3, 1) := by decide +kernel
theorem dX9_node_98 : decode cX9_node 98 = .ok (.invokevirtual 183, 3) := by decide +kernel
theorem dX9_node_101 : decode cX9_node 101 = .ok (.ireturn, 1) := by decide +kernel
theorem dX9_node_102 : decode cX9_node 102 = .ok (.iload_n 3, 1) := by decide +kernel
theorem dX9_node_103 : decode cX9_node 103 = .ok (.aload_n 0, 1) := by decide +kernel
theorem dX9_node_104 : decode cX9_node 104 = .ok (.invokevirtual 87, 3) := by decide +kernel
theorem dX9_node_107 : decode cX9_node 107 = .ok (.if_icmp .ne 7, 3) := by decide +kernel
theorem dX9_node_110 : decode cX9_node 110 = .ok (.iconst (-1), 1) := by decide +kernel
theorem dX9_node_111 : decode cX9_node 111 = .ok (.goto 14, 3) := by decide +kernel
theorem dX9_node_114 : decode cX9_node 114 = .ok (.aload_n 0, 1) := by decide +kernel
theorem dX9_node_115 : decode cX9_node 115 = .ok (.aload_n 0, 1) := by decide +kernel
theorem dX9_node_116 : decode cX9_node 116 = .ok (.iload_n 3, 1) := by decide +kernel
theorem dX9_node_117 : decode cX9_node 117 = .ok (.iconst 5, 1) := by decide +kernel
theorem dX9_node_118 : decode cX9_node 118 = .ok (.invokevirtual 63, 3) := by decide +kernel
theorem dX9_node_121 : decode cX9_node 121 = .ok (.iload_n 3, 1) := by decide +kernel
theorem dX9_node_122 : decode cX9_node 122 = .ok (.invokevirtual 100, 3) := by decide +kernel
theorem dX9_node_125 : decode cX9_node 125 = .ok (.ireturn, 1) := by decide +kernel
theorem dX9_node_126 : decode cX9_node 126 = .ok (.ldc 171, 2) := by decide +kernel
theorem dX9_node_128 : decode cX9_node 128 = .ok (.ireturn, 1) := by decide +kernel
theorem dX9_key_0 : decode cX9_key 0 = .ok (.iload_n 1, 1) := by decide +kernel
theorem dX9_key_1 : decode cX9_key 1 = .ok (.ifCond .ge 7, 3) := by decide +kernel
theorem dX9_key_4 : decode cX9_key 4 = .ok (.iconst (-1), 1) := by decide +kernel
theorem dX9_key_5 : decode cX9_key 5 = .ok (.goto 8, 3) := by decide +kernel
theorem dX9_key_8 : decode cX9_key 8 = .ok (.aload_n 0, 1) := by decide +kernel
theorem dX9_key_9 : decode cX9_key 9 = .ok (.iload_n 1, 1) := by decide +kernel
theorem dX9_key_10 : decode cX9_key 10 = .ok (.invokevirtual 134, 3) := by decide +kernel
theorem dX9_key_13 : decode cX9_key 13 = .ok (.istore_n 3, 1) := by decide +kernel
theorem dX9_key_14 : decode cX9_key 14 = .ok (.iload_n 3, 1) := by decide +kernel
theorem dX9_key_15 : decode cX9_key 15 = .ok (.iconst (-1), 1) := by decide +kernel
theorem dX9_key_16 : decode cX9_key 16 = .ok (.if_icmp .ne 6, 3) := by decide +kernel
theorem dX9_key_19 : decode cX9_key 19 = .ok (.ldc 179, 2) := by decide +kernel
theorem dX9_key_21 : decode cX9_key 21 = .ok (.ireturn, 1) := by decide +kernel
theorem dX9_key_22 : decode cX9_key 22 = .ok (.aload_n 0, 1) := by decide +kernel
theorem dX9_key_23 : decode cX9_key 23 = .ok (.invokevirtual 131, 3) := by decide +kernel
theorem dX9_key_26 : decode cX9_key 26 = .ok (.iload_n 2, 1) := by decide +kernel
theorem dX9_key_27 : decode cX9_key 27 = .ok (.ifCond .ne 12, 3) := by decide +kernel
theorem dX9_key_30 : decode cX9_key 30 = .ok (.aload_n 0, 1) := by decide +kernel
theorem dX9_key_31 : decode cX9_key 31 = .ok (.iload_n 3, 1) := by decide +kernel
theorem dX9_key_32 : decode cX9_key 32 = .ok (.iconst 1, 1) := by decide +kernel
theorem dX9_key_33 : decode cX9_key 33 = .ok (.invokevirtual 63, 3) := by decide +kernel
theorem dX9_key_36 : decode cX9_key 36 = .ok (.goto 32, 3) := by decide +kernel
theorem dX9_key_39 : decode cX9_key 39 = .ok (.iload_n 2, 1) := by decide +kernel
theorem dX9_key_40 : decode cX9_key 40 = .ok (.iconst 1, 1) := by decide +kernel
theorem dX9_key_41 : decode cX9_key 41 = .ok (.if_icmp .ne 12, 3) := by decide +kernel
theorem dX9_key_44 : decode cX9_key 44 = .ok (.aload_n 0, 1) := by decide +kernel
theorem dX9_key_45 : decode cX9_key 45 = .ok (.getfield 29, 3) := by decide +kernel
theorem dX9_key_48 : decode cX9_key 48 = .ok (.iload_n 3, 1) := by decide +kernel
theorem dX9_key_49 : decode cX9_key 49 = .ok (.iaload, 1) := by decide +kernel
theorem dX9_key_50 : decode cX9_key 50 = .ok (.goto 18, 3) := by decide +kernel
theorem dX9_key_53 : decode cX9_key 53 = .ok (.iload_n 2, 1) := by decide +kernel
theorem dX9_key_54 : decode cX9_key 54 = .ok (.iconst 2, 1) := by decide +kernel
theorem dX9_key_55 : decode cX9_key 55 = .ok (.if_icmp .ne 11, 3) := by decide +kernel
theorem dX9_key_58 : decode cX9_key 58 = .ok (.aload_n 0, 1) := by decide +kernel
theorem dX9_key_59 : decode cX9_key 59 = .ok (.iload_n 1, 1) := by decide +kernel
theorem dX9_key_60 : decode cX9_key 60 = .ok (.invokevirtual 186, 3) := by decide +kernel
theorem dX9_key_63 : decode cX9_key 63 = .ok (.goto 5, 3) := by decide +kernel
theorem dX9_key_66 : decode cX9_key 66 = .ok (.ldc 171, 2) := by decide +kernel
theorem dX9_key_68 : decode cX9_key 68 = .ok (.ireturn, 1) := by decide +kernel
theorem dX9_at_0 : decode cX9_at 0 = .ok (.aload_n 0, 1) := by decide +kernel
theorem dX9_at_1 : decode cX9_at 1 = .ok (.iconst (-1), 1) := by decide +kernel
theorem dX9_at_2 : decode cX9_at 2 = .ok (.iconst 0, 1) := by decide +kernel
theorem dX9_at_3 : decode cX9_at 3 = .ok (.invokevirtual 140, 3) := by decide +kernel
theorem dX9_at_6 : decode cX9_at 6 = .ok (.istore_n 2, 1) := by decide +kernel
theorem dX9_at_7 : decode cX9_at 7 = .ok (.iconst 0, 1) := by decide +kernel
theorem dX9_at_8 : decode cX9_at 8 = .ok (.istore_n 3, 1) := by decide +kernel
theorem dX9_at_9 : decode cX9_at 9 = .ok (.iload_n 3, 1) := by decide +kernel
theorem dX9_at_10 : decode cX9_at 10 = .ok (.iload_n 1, 1) := by decide +kernel
theorem dX9_at_11 : decode cX9_at 11 = .ok (.if_icmp .ge 21, 3) := by decide +kernel
theorem dX9_at_14 : decode cX9_at 14 = .ok (.iload_n 2, 1) := by decide +kernel
theorem dX9_at_15 : decode cX9_at 15 = .ok (.iconst (-1), 1) := by decide +kernel
theorem dX9_at_16 : decode cX9_at 16 = .ok (.if_icmp .eq 16, 3) := by decide +kernel
theorem dX9_at_19 : decode cX9_at 19 = .ok (.aload_n 0, 1) := by decide +kernel
theorem dX9_at_20 : decode cX9_at 20 = .ok (.iload_n 2, 1) := by decide +kernel
theorem dX9_at_21 : decode cX9_at 21 = .ok (.iconst 0, 1) := by decide +kernel
theorem dX9_at_22 : decode cX9_at 22 = .ok (.invokevirtual 140, 3) := by decide +kernel
theorem dX9_at_25 : decode cX9_at 25 = .ok (.istore_n 2, 1) := by decide +kernel
theorem dX9_at_26 : decode cX9_at 26 = .ok (.iinc 3 1, 3) := by decide +kernel
theorem dX9_at_29 : decode cX9_at 29 = .ok (.goto (-20), 3) := by decide +kernel
theorem dX9_at_32 : decode cX9_at 32 = .ok (.iload_n 1, 1) := by decide +kernel
theorem dX9_at_33 : decode cX9_at 33 = .ok (.ifCond .ge 7, 3) := by decide +kernel
theorem dX9_at_36 : decode cX9_at 36 = .ok (.iconst (-1), 1) := by decide +kernel
theorem dX9_at_37 : decode cX9_at 37 = .ok (.goto 4, 3) := by decide +kernel
theorem dX9_at_40 : decode cX9_at 40 = .ok (.iload_n 2, 1) := by decide +kernel
theorem dX9_at_41 : decode cX9_at 41 = .ok (.ireturn, 1) := by decide +kernel
theorem dX9_save_0 : decode cX9_save 0 = .ok (.aload_n 0, 1) := by decide +kernel
theorem dX9_save_1 : decode cX9_save 1 = .ok (.getfield 167, 3) := by decide +kernel
theorem dX9_save_4 : decode cX9_save 4 = .ok (.bipush 12, 2) := by decide +kernel
theorem dX9_save_6 : decode cX9_save 6 = .ok (.if_icmp .ne 44, 3) := by decide +kernel
theorem dX9_save_9 : decode cX9_save 9 = .ok (.iconst 0, 1) := by decide +kernel
theorem dX9_save_10 : decode cX9_save 10 = .ok (.istore_n 1, 1) := by decide +kernel
theorem dX9_save_11 : decode cX9_save 11 = .ok (.iload_n 1, 1) := by decide +kernel
theorem dX9_save_12 : decode cX9_save 12 = .ok (.sipush 4048, 3) := by decide +kernel
theorem dX9_save_15 : decode cX9_save 15 = .ok (.if_icmp .ge 25, 3) := by decide +kernel
theorem dX9_save_18 : decode cX9_save 18 = .ok (.aload_n 0, 1) := by decide +kernel
theorem dX9_save_19 : decode cX9_save 19 = .ok (.getfield 13, 3) := by decide +kernel
theorem dX9_save_22 : decode cX9_save 22 = .ok (.iload_n 1, 1) := by decide +kernel
theorem dX9_save_23 : decode cX9_save 23 = .ok (.aload_n 0, 1) := by decide +kernel
theorem dX9_save_24 : decode cX9_save 24 = .ok (.getfield 13, 3) := by decide +kernel
theorem dX9_save_27 : decode cX9_save 27 = .ok (.iload_n 1, 1) := by decide +kernel
theorem dX9_save_28 : decode cX9_save 28 = .ok (.sipush 368, 3) := by decide +kernel
theorem dX9_save_31 : decode cX9_save 31 = .ok (.iadd, 1) := by decide +kernel
theorem dX9_save_32 : decode cX9_save 32 = .ok (.iaload, 1) := by decide +kernel
theorem dX9_save_33 : decode cX9_save 33 = .ok (.iastore, 1) := by decide +kernel
theorem dX9_save_34 : decode cX9_save 34 = .ok (.iinc 1 1, 3) := by decide +kernel
theorem dX9_save_37 : decode cX9_save 37 = .ok (.goto (-26), 3) := by decide +kernel
theorem dX9_save_40 : decode cX9_save 40 = .ok (.aload_n 0, 1) := by decide +kernel
theorem dX9_save_41 : decode cX9_save 41 = .ok (.dup, 1) := by decide +kernel
theorem dX9_save_42 : decode cX9_save 42 = .ok (.getfield 167, 3) := by decide +kernel
theorem dX9_save_45 : decode cX9_save 45 = .ok (.iconst 1, 1) := by decide +kernel
theorem dX9_save_46 : decode cX9_save 46 = .ok (.isub, 1) := by decide +kernel
theorem dX9_save_47 : decode cX9_save 47 = .ok (.putfield 167, 3) := by decide +kernel
theorem dX9_save_50 : decode cX9_save 50 = .ok (.iconst 0, 1) := by decide +kernel
theorem dX9_save_51 : decode cX9_save 51 = .ok (.istore_n 1, 1) := by decide +kernel
theorem dX9_save_52 : decode cX9_save 52 = .ok (.iload_n 1, 1) := by decide +kernel
theorem dX9_save_53 : decode cX9_save 53 = .ok (.sipush 368, 3) := by decide +kernel
theorem dX9_save_56 : decode cX9_save 56 = .ok (.if_icmp .ge 30, 3) := by decide +kernel
theorem dX9_save_59 : decode cX9_save 59 = .ok (.aload_n 0, 1) := by decide +kernel
theorem dX9_save_60 : decode cX9_save 60 = .ok (.getfield 13, 3) := by decide +kernel
theorem dX9_save_63 : decode cX9_save 63 = .ok (.sipush 368, 3) := by decide +kernel
theorem dX9_save_66 : decode cX9_save 66 = .ok (.aload_n 0, 1) := by decide +kernel
theorem dX9_save_67 : decode cX9_save 67 = .ok (.getfield 167, 3) := by decide +kernel
theorem dX9_save_70 : decode cX9_save 70 = .ok (.imul, 1) := by decide +kernel
theorem dX9_save_71 : decode cX9_save 71 = .ok (.iload_n 1, 1) := by decide +kernel
theorem dX9_save_72 : decode cX9_save 72 = .ok (.iadd, 1) := by decide +kernel
theorem dX9_save_73 : decode cX9_save 73 = .ok (.aload_n 0, 1) := by decide +kernel
theorem dX9_save_74 : decode cX9_save 74 = .ok (.getfield 7, 3) := by decide +kernel
theorem dX9_save_77 : decode cX9_save 77 = .ok (.iload_n 1, 1) := by decide +kernel
theorem dX9_save_78 : decode cX9_save 78 = .ok (.iaload, 1) := by decide +kernel
theorem dX9_save_79 : decode cX9_save 79 = .ok (.iastore, 1) := by decide +kernel
theorem dX9_save_80 : decode cX9_save 80 = .ok (.iinc 1 1, 3) := by decide +kernel
theorem dX9_save_83 : decode cX9_save 83 = .ok (.goto (-31), 3) := by decide +kernel
theorem dX9_save_86 : decode cX9_save 86 = .ok (.aload_n 0, 1) := by decide +kernel
theorem dX9_save_87 : decode cX9_save 87 = .ok (.dup, 1) := by decide +kernel
theorem dX9_save_88 : decode cX9_save 88 = .ok (.getfield 167, 3) := by decide +kernel
theorem dX9_save_91 : decode cX9_save 91 = .ok (.iconst 1, 1) := by decide +kernel
theorem dX9_save_92 : decode cX9_save 92 = .ok (.iadd, 1) := by decide +kernel
theorem dX9_save_93 : decode cX9_save 93 = .ok (.putfield 167, 3) := by decide +kernel
theorem dX9_save_96 : decode cX9_save 96 = .ok (.return_, 1) := by decide +kernel
theorem dX9_isKey_0 : decode cX9_isKey 0 = .ok (.iload_n 0, 1) := by decide +kernel
theorem dX9_isKey_1 : decode cX9_isKey 1 = .ok (.i2l, 1) := by decide +kernel
theorem dX9_isKey_2 : decode cX9_isKey 2 = .ok (.lconst 0, 1) := by decide +kernel
theorem dX9_isKey_3 : decode cX9_isKey 3 = .ok (.ldc2_w 189, 3) := by decide +kernel
theorem dX9_isKey_6 : decode cX9_isKey 6 = .ok (.invokestatic 172, 3) := by decide +kernel
theorem dX9_isKey_9 : decode cX9_isKey 9 = .ok (.ireturn, 1) := by decide +kernel
theorem dX9_isThere_0 : decode cX9_isThere 0 = .ok (.aload_n 0, 1) := by decide +kernel
theorem dX9_isThere_1 : decode cX9_isThere 1 = .ok (.iload_n 1, 1) := by decide +kernel
theorem dX9_isThere_2 : decode cX9_isThere 2 = .ok (.invokevirtual 134, 3) := by decide +kernel
theorem dX9_isThere_5 : decode cX9_isThere 5 = .ok (.iconst (-1), 1) := by decide +kernel
theorem dX9_isThere_6 : decode cX9_isThere 6 = .ok (.if_icmp .eq 7, 3) := by decide +kernel
theorem dX9_isThere_9 : decode cX9_isThere 9 = .ok (.iconst 1, 1) := by decide +kernel
theorem dX9_isThere_10 : decode cX9_isThere 10 = .ok (.goto 4, 3) := by decide +kernel
theorem dX9_isThere_13 : decode cX9_isThere 13 = .ok (.iconst 0, 1) := by decide +kernel
theorem dX9_isThere_14 : decode cX9_isThere 14 = .ok (.ireturn, 1) := by decide +kernel
theorem dX9_put_0 : decode cX9_put 0 = .ok (.iload_n 1, 1) := by decide +kernel
theorem dX9_put_1 : decode cX9_put 1 = .ok (.invokestatic 191, 3) := by decide +kernel
theorem dX9_put_4 : decode cX9_put 4 = .ok (.ifCond .eq 15, 3) := by decide +kernel
theorem dX9_put_7 : decode cX9_put 7 = .ok (.iload_n 2, 1) := by decide +kernel
theorem dX9_put_8 : decode cX9_put 8 = .ok (.i2l, 1) := by decide +kernel
theorem dX9_put_9 : decode cX9_put 9 = .ok (.lconst 0, 1) := by decide +kernel
theorem dX9_put_10 : decode cX9_put 10 = .ok (.ldc2_w 194, 3) := by decide +kernel
theorem dX9_put_13 : decode cX9_put 13 = .ok (.invokestatic 172, 3) := by decide +kernel
theorem dX9_put_16 : decode cX9_put 16 = .ok (.ifCond .ne 6, 3) := by decide +kernel
theorem dX9_put_19 : decode cX9_put 19 = .ok (.ldc 171, 2) := by decide +kernel
theorem dX9_put_21 : decode cX9_put 21 = .ok (.ireturn, 1) := by decide +kernel
theorem dX9_put_22 : decode cX9_put 22 = .ok (.aload_n 0, 1) := by decide +kernel
theorem dX9_put_23 : decode cX9_put 23 = .ok (.iload_n 1, 1) := by decide +kernel
theorem dX9_put_24 : decode cX9_put 24 = .ok (.invokevirtual 196, 3) := by decide +kernel
theorem dX9_put_27 : decode cX9_put 27 = .ok (.ifCond .eq 6, 3) := by decide +kernel
theorem dX9_put_30 : decode cX9_put 30 = .ok (.ldc 199, 2) := by decide +kernel
theorem dX9_put_32 : decode cX9_put 32 = .ok (.ireturn, 1) := by decide +kernel
theorem dX9_put_33 : decode cX9_put 33 = .ok (.aload_n 0, 1) := by decide +kernel
theorem dX9_put_34 : decode cX9_put 34 = .ok (.invokevirtual 128, 3) := by decide +kernel
theorem dX9_put_37 : decode cX9_put 37 = .ok (.bipush 60, 2) := by decide +kernel
theorem dX9_put_39 : decode cX9_put 39 = .ok (.if_icmp .ne 6, 3) := by decide +kernel
theorem dX9_put_42 : decode cX9_put 42 = .ok (.ldc 200, 2) := by decide +kernel
theorem dX9_put_44 : decode cX9_put 44 = .ok (.ireturn, 1) := by decide +kernel
theorem dX9_put_45 : decode cX9_put 45 = .ok (.aload_n 0, 1) := by decide +kernel
theorem dX9_put_46 : decode cX9_put 46 = .ok (.invokevirtual 201, 3) := by decide +kernel
theorem dX9_put_49 : decode cX9_put 49 = .ok (.aload_n 0, 1) := by decide +kernel
theorem dX9_put_50 : decode cX9_put 50 = .ok (.iload_n 1, 1) := by decide +kernel
theorem dX9_put_51 : decode cX9_put 51 = .ok (.iload_n 2, 1) := by decide +kernel
theorem dX9_put_52 : decode cX9_put 52 = .ok (.invokevirtual 204, 3) := by decide +kernel
theorem dX9_put_55 : decode cX9_put 55 = .ok (.aload_n 0, 1) := by decide +kernel
theorem dX9_put_56 : decode cX9_put 56 = .ok (.getfield 7, 3) := by decide +kernel
theorem dX9_put_59 : decode cX9_put 59 = .ok (.sipush 367, 3) := by decide +kernel
theorem dX9_put_62 : decode cX9_put 62 = .ok (.iaload, 1) := by decide +kernel
theorem dX9_put_63 : decode cX9_put 63 = .ok (.ireturn, 1) := by decide +kernel
theorem dX9_take_0 : decode cX9_take 0 = .ok (.iload_n 1, 1) := by decide +kernel
theorem dX9_take_1 : decode cX9_take 1 = .ok (.invokestatic 191, 3) := by decide +kernel
theorem dX9_take_4 : decode cX9_take 4 = .ok (.ifCond .ne 6, 3) := by decide +kernel
theorem dX9_take_7 : decode cX9_take 7 = .ok (.ldc 171, 2) := by decide +kernel
theorem dX9_take_9 : decode cX9_take 9 = .ok (.ireturn, 1) := by decide +kernel
theorem dX9_take_10 : decode cX9_take 10 = .ok (.aload_n 0, 1) := by decide +kernel
theorem dX9_take_11 : decode cX9_take 11 = .ok (.iload_n 1, 1) := by decide +kernel
theorem dX9_take_12 : decode cX9_take 12 = .ok (.invokevirtual 134, 3) := by decide +kernel
theorem dX9_take_15 : decode cX9_take 15 = .ok (.istore_n 2, 1) := by decide +kernel
theorem dX9_take_16 : decode cX9_take 16 = .ok (.iload_n 2, 1) := by decide +kernel
theorem dX9_take_17 : decode cX9_take 17 = .ok (.iconst (-1), 1) := by decide +kernel
theorem dX9_take_18 : decode cX9_take 18 = .ok (.if_icmp .ne 6, 3) := by decide +kernel
theorem dX9_take_21 : decode cX9_take 21 = .ok (.ldc 199, 2) := by decide +kernel
theorem dX9_take_23 : decode cX9_take 23 = .ok (.ireturn, 1) := by decide +kernel
theorem dX9_take_24 : decode cX9_take 24 = .ok (.aload_n 0, 1) := by decide +kernel
theorem dX9_take_25 : decode cX9_take 25 = .ok (.iload_n 2, 1) := by decide +kernel
theorem dX9_take_26 : decode cX9_take 26 = .ok (.iconst 1, 1) := by decide +kernel
theorem dX9_take_27 : decode cX9_take 27 = .ok (.invokevirtual 63, 3) := by decide +kernel
theorem dX9_take_30 : decode cX9_take 30 = .ok (.istore_n 3, 1) := by decide +kernel
theorem dX9_take_31 : decode cX9_take 31 = .ok (.aload_n 0, 1) := by decide +kernel
theorem dX9_take_32 : decode cX9_take 32 = .ok (.invokevirtual 201, 3) := by decide +kernel
theorem dX9_take_35 : decode cX9_take 35 = .ok (.aload_n 0, 1) := by decide +kernel
theorem dX9_take_36 : decode cX9_take 36 = .ok (.iload_n 2, 1) := by decide +kernel
theorem dX9_take_37 : decode cX9_take 37 = .ok (.invokevirtual 137, 3) := by decide +kernel
theorem dX9_take_40 : decode cX9_take 40 = .ok (.iload_n 3, 1) := by decide +kernel
theorem dX9_take_41 : decode cX9_take 41 = .ok (.ireturn, 1) := by decide +kernel
theorem dX9_worth_0 : decode cX9_worth 0 = .ok (.iload_n 1, 1) := by decide +kernel
theorem dX9_worth_1 : decode cX9_worth 1 = .ok (.ifCond .ge 7, 3) := by decide +kernel
theorem dX9_worth_4 : decode cX9_worth 4 = .ok (.iconst (-1), 1) := by decide +kernel
theorem dX9_worth_5 : decode cX9_worth 5 = .ok (.goto 8, 3) := by decide +kernel
theorem dX9_worth_8 : decode cX9_worth 8 = .ok (.aload_n 0, 1) := by decide +kernel
theorem dX9_worth_9 : decode cX9_worth 9 = .ok (.iload_n 1, 1) := by decide +kernel
theorem dX9_worth_10 : decode cX9_worth 10 = .ok (.invokevirtual 134, 3) := by decide +kernel
theorem dX9_worth_13 : decode cX9_worth 13 = .ok (.istore_n 3, 1) := by decide +kernel
theorem dX9_worth_14 : decode cX9_worth 14 = .ok (.iload_n 3, 1) := by decide +kernel
theorem dX9_worth_15 : decode cX9_worth 15 = .ok (.iconst (-1), 1) := by decide +kernel
theorem dX9_worth_16 : decode cX9_worth 16 = .ok (.if_icmp .ne 6, 3) := by decide +kernel
theorem dX9_worth_19 : decode cX9_worth 19 = .ok (.ldc 179, 2) := by decide +kernel
theorem dX9_worth_21 : decode cX9_worth 21 = .ok (.ireturn, 1) := by decide +kernel
theorem dX9_worth_22 : decode cX9_worth 22 = .ok (.iload_n 2, 1) := by decide +kernel
theorem dX9_worth_23 : decode cX9_worth 23 = .ok (.i2l, 1) := by decide +kernel
theorem dX9_worth_24 : decode cX9_worth 24 = .ok (.lconst 0, 1) := by decide +kernel
theorem dX9_worth_25 : decode cX9_worth 25 = .ok (.ldc2_w 194, 3) := by decide +kernel
theorem dX9_worth_28 : decode cX9_worth 28 = .ok (.invokestatic 172, 3) := by decide +kernel
theorem dX9_worth_31 : decode cX9_worth 31 = .ok (.ifCond .ne 6, 3) := by decide +kernel
theorem dX9_worth_34 : decode cX9_worth 34 = .ok (.ldc 171, 2) := by decide +kernel
theorem dX9_worth_36 : decode cX9_worth 36 = .ok (.ireturn, 1) := by decide +kernel
theorem dX9_worth_37 : decode cX9_worth 37 = .ok (.aload_n 0, 1) := by decide +kernel
theorem dX9_worth_38 : decode cX9_worth 38 = .ok (.iload_n 3, 1) := by decide +kernel
theorem dX9_worth_39 : decode cX9_worth 39 = .ok (.iconst 1, 1) := by decide +kernel
theorem dX9_worth_40 : decode cX9_worth 40 = .ok (.invokevirtual 63, 3) := by decide +kernel
theorem dX9_worth_43 : decode cX9_worth 43 = .ok (.istore 4, 2) := by decide +kernel
theorem dX9_worth_45 : decode cX9_worth 45 = .ok (.aload_n 0, 1) := by decide +kernel
theorem dX9_worth_46 : decode cX9_worth 46 = .ok (.invokevirtual 201, 3) := by decide +kernel
theorem dX9_worth_49 : decode cX9_worth 49 = .ok (.aload_n 0, 1) := by decide +kernel
theorem dX9_worth_50 : decode cX9_worth 50 = .ok (.iload_n 3, 1) := by decide +kernel
theorem dX9_worth_51 : decode cX9_worth 51 = .ok (.iconst 1, 1) := by decide +kernel
theorem dX9_worth_52 : decode cX9_worth 52 = .ok (.iload_n 2, 1) := by decide +kernel
theorem dX9_worth_53 : decode cX9_worth 53 = .ok (.invokevirtual 56, 3) := by decide +kernel
theorem dX9_worth_56 : decode cX9_worth 56 = .ok (.iload 4, 2) := by decide +kernel
theorem dX9_worth_58 : decode cX9_worth 58 = .ok (.ireturn, 1) := by decide +kernel
theorem dX9_cut_0 : decode cX9_cut 0 = .ok (.iload_n 1, 1) := by decide +kernel
theorem dX9_cut_1 : decode cX9_cut 1 = .ok (.i2l, 1) := by decide +kernel
theorem dX9_cut_2 : decode cX9_cut 2 = .ok (.lconst 0, 1) := by decide +kernel
theorem dX9_cut_3 : decode cX9_cut 3 = .ok (.ldc2_w 207, 3) := by decide +kernel
theorem dX9_cut_6 : decode cX9_cut 6 = .ok (.invokestatic 172, 3) := by decide +kernel
theorem dX9_cut_9 : decode cX9_cut 9 = .ok (.ifCond .ne 6, 3) := by decide +kernel
theorem dX9_cut_12 : decode cX9_cut 12 = .ok (.ldc 171, 2) := by decide +kernel
theorem dX9_cut_14 : decode cX9_cut 14 = .ok (.ireturn, 1) := by decide +kernel
theorem dX9_cut_15 : decode cX9_cut 15 = .ok (.iconst 0, 1) := by decide +kernel
theorem dX9_cut_16 : decode cX9_cut 16 = .ok (.istore_n 2, 1) := by decide +kernel
theorem dX9_cut_17 : decode cX9_cut 17 = .ok (.aload_n 0, 1) := by decide +kernel
theorem dX9_cut_18 : decode cX9_cut 18 = .ok (.invokevirtual 201, 3) := by decide +kernel
theorem dX9_cut_21 : decode cX9_cut 21 = .ok (.aload_n 0, 1) := by decide +kernel
theorem dX9_cut_22 : decode cX9_cut 22 = .ok (.iconst (-1), 1) := by decide +kernel
theorem dX9_cut_23 : decode cX9_cut 23 = .ok (.iconst 0, 1) := by decide +kernel
theorem dX9_cut_24 : decode cX9_cut 24 = .ok (.invokevirtual 140, 3) := by decide +kernel
theorem dX9_cut_27 : decode cX9_cut 27 = .ok (.istore_n 3, 1) := by decide +kernel
theorem dX9_cut_28 : decode cX9_cut 28 = .ok (.iload_n 3, 1) := by decide +kernel
theorem dX9_cut_29 : decode cX9_cut 29 = .ok (.iconst (-1), 1) := by decide +kernel
theorem dX9_cut_30 : decode cX9_cut 30 = .ok (.if_icmp .eq 30, 3) := by decide +kernel
theorem dX9_cut_33 : decode cX9_cut 33 = .ok (.iload_n 3, 1) := by decide +kernel
theorem dX9_cut_34 : decode cX9_cut 34 = .ok (.iload_n 1, 1) := by decide +kernel
theorem dX9_cut_35 : decode cX9_cut 35 = .ok (.if_icmp .ge 25, 3) := by decide +kernel
theorem dX9_cut_38 : decode cX9_cut 38 = .ok (.aload_n 0, 1) := by decide +kernel
theorem dX9_cut_39 : decode cX9_cut 39 = .ok (.aload_n 0, 1) := by decide +kernel
theorem dX9_cut_40 : decode cX9_cut 40 = .ok (.iload_n 3, 1) := by decide +kernel
theorem dX9_cut_41 : decode cX9_cut 41 = .ok (.invokevirtual 134, 3) := by decide +kernel
theorem dX9_cut_44 : decode cX9_cut 44 = .ok (.invokevirtual 137, 3) := by decide +kernel
theorem dX9_cut_47 : decode cX9_cut 47 = .ok (.iinc 2 1, 3) := by decide +kernel
theorem dX9_cut_50 : decode cX9_cut 50 = .ok (.aload_n 0, 1) := by decide +kernel
theorem dX9_cut_51 : decode cX9_cut 51 = .ok (.iconst (-1), 1) := by decide +kernel
theorem dX9_cut_52 : decode cX9_cut 52 = .ok (.iconst 0, 1) := by decide +kernel
theorem dX9_cut_53 : decode cX9_cut 53 = .ok (.invokevirtual 140, 3) := by decide +kernel
theorem dX9_cut_56 : decode cX9_cut 56 = .ok (.istore_n 3, 1) := by decide +kernel
theorem dX9_cut_57 : decode cX9_cut 57 = .ok (.goto (-29), 3) := by decide +kernel
theorem dX9_cut_60 : decode cX9_cut 60 = .ok (.iload_n 2, 1) := by decide +kernel
theorem dX9_cut_61 : decode cX9_cut 61 = .ok (.ireturn, 1) := by decide +kernel
theorem dX9_comes_0 : decode cX9_comes 0 = .ok (.iload_n 1, 1) := by decide +kernel
theorem dX9_comes_1 : decode cX9_comes 1 = .ok (.invokestatic 191, 3) := by decide +kernel
theorem dX9_comes_4 : decode cX9_comes 4 = .ok (.ifCond .eq 24, 3) := by decide +kernel
theorem dX9_comes_7 : decode cX9_comes 7 = .ok (.aload_n 0, 1) := by decide +kernel
theorem dX9_comes_8 : decode cX9_comes 8 = .ok (.iload_n 1, 1) := by decide +kernel
theorem dX9_comes_9 : decode cX9_comes 9 = .ok (.invokevirtual 196, 3) := by decide +kernel
theorem dX9_comes_12 : decode cX9_comes 12 = .ok (.ifCond .ne 16, 3) := by decide +kernel
theorem dX9_comes_15 : decode cX9_comes 15 = .ok (.aload_n 0, 1) := by decide +kernel
theorem dX9_comes_16 : decode cX9_comes 16 = .ok (.invokevirtual 128, 3) := by decide +kernel
theorem dX9_comes_19 : decode cX9_comes 19 = .ok (.bipush 60, 2) := by decide +kernel
theorem dX9_comes_21 : decode cX9_comes 21 = .ok (.if_icmp .ge 7, 3) := by decide +kernel
theorem dX9_comes_24 : decode cX9_comes 24 = .ok (.iconst 1, 1) := by decide +kernel
theorem dX9_comes_25 : decode cX9_comes 25 = .ok (.goto 4, 3) := by decide +kernel
theorem dX9_comes_28 : decode cX9_comes 28 = .ok (.iconst 0, 1) := by decide +kernel
theorem dX9_comes_29 : decode cX9_comes 29 = .ok (.istore_n 3, 1) := by decide +kernel
theorem dX9_comes_30 : decode cX9_comes 30 = .ok (.iload_n 3, 1) := by decide +kernel
theorem dX9_comes_31 : decode cX9_comes 31 = .ok (.ifCond .eq 9, 3) := by decide +kernel
theorem dX9_comes_34 : decode cX9_comes 34 = .ok (.aload_n 0, 1) := by decide +kernel
theorem dX9_comes_35 : decode cX9_comes 35 = .ok (.iload_n 1, 1) := by decide +kernel
theorem dX9_comes_36 : decode cX9_comes 36 = .ok (.iload_n 2, 1) := by decide +kernel
theorem dX9_comes_37 : decode cX9_comes 37 = .ok (.invokevirtual 204, 3) := by decide +kernel
theorem dX9_comes_40 : decode cX9_comes 40 = .ok (.iload_n 3, 1) := by decide +kernel
theorem dX9_comes_41 : decode cX9_comes 41 = .ok (.ireturn, 1) := by decide +kernel
theorem dX9_batch_0 : decode cX9_batch 0 = .ok (.iload_n 1, 1) := by decide +kernel
theorem dX9_batch_1 : decode cX9_batch 1 = .ok (.i2l, 1) := by decide +kernel
theorem dX9_batch_2 : decode cX9_batch 2 = .ok (.lconst 1, 1) := by decide +kernel
theorem dX9_batch_3 : decode cX9_batch 3 = .ok (.ldc2_w 209, 3) := by decide +kernel
theorem dX9_batch_6 : decode cX9_batch 6 = .ok (.invokestatic 172, 3) := by decide +kernel
theorem dX9_batch_9 : decode cX9_batch 9 = .ok (.ifCond .eq 22, 3) := by decide +kernel
theorem dX9_batch_12 : decode cX9_batch 12 = .ok (.iload_n 2, 1) := by decide +kernel
theorem dX9_batch_13 : decode cX9_batch 13 = .ok (.invokestatic 191, 3) := by decide +kernel
theorem dX9_batch_16 : decode cX9_batch 16 = .ok (.ifCond .eq 15, 3) := by decide +kernel
theorem dX9_batch_19 : decode cX9_batch 19 = .ok (.iload_n 3, 1) := by decide +kernel
theorem dX9_batch_20 : decode cX9_batch 20 = .ok (.i2l, 1) := by decide +kernel
theorem dX9_batch_21 : decode cX9_batch 21 = .ok (.lconst 1, 1) := by decide +kernel
theorem dX9_batch_22 : decode cX9_batch 22 = .ok (.ldc2_w 194, 3) := by decide +kernel
theorem dX9_batch_25 : decode cX9_batch 25 = .ok (.invokestatic 172, 3) := by decide +kernel
theorem dX9_batch_28 : decode cX9_batch 28 = .ok (.ifCond .ne 6, 3) := by decide +kernel
theorem dX9_batch_31 : decode cX9_batch 31 = .ok (.ldc 171, 2) := by decide +kernel
theorem dX9_batch_33 : decode cX9_batch 33 = .ok (.ireturn, 1) := by decide +kernel
theorem dX9_batch_34 : decode cX9_batch 34 = .ok (.iconst 0, 1) := by decide +kernel
theorem dX9_batch_35 : decode cX9_batch 35 = .ok (.istore 4, 2) := by decide +kernel
theorem dX9_batch_37 : decode cX9_batch 37 = .ok (.aload_n 0, 1) := by decide +kernel
theorem dX9_batch_38 : decode cX9_batch 38 = .ok (.invokevirtual 201, 3) := by decide +kernel
theorem dX9_batch_41 : decode cX9_batch 41 = .ok (.iconst 0, 1) := by decide +kernel
theorem dX9_batch_42 : decode cX9_batch 42 = .ok (.istore 5, 2) := by decide +kernel
theorem dX9_batch_44 : decode cX9_batch 44 = .ok (.iload 5, 2) := by decide +kernel
theorem dX9_batch_46 : decode cX9_batch 46 = .ok (.iload_n 1, 1) := by decide +kernel
theorem dX9_batch_47 : decode cX9_batch 47 = .ok (.if_icmp .ge 33, 3) := by decide +kernel
theorem dX9_batch_50 : decode cX9_batch 50 = .ok (.iload 4, 2) := by decide +kernel
theorem dX9_batch_52 : decode cX9_batch 52 = .ok (.aload_n 0, 1) := by decide +kernel
theorem dX9_batch_53 : decode cX9_batch 53 = .ok (.iload_n 2, 1) := by decide +kernel
theorem dX9_batch_54 : decode cX9_batch 54 = .ok (.iload 5, 2) := by decide +kernel
theorem dX9_batch_56 : decode cX9_batch 56 = .ok (.iload_n 3, 1) := by decide +kernel
theorem dX9_batch_57 : decode cX9_batch 57 = .ok (.imul, 1) := by decide +kernel
theorem dX9_batch_58 : decode cX9_batch 58 = .ok (.iadd, 1) := by decide +kernel
theorem dX9_batch_59 : decode cX9_batch 59 = .ok (.iconst 1, 1) := by decide +kernel
theorem dX9_batch_60 : decode cX9_batch 60 = .ok (.invokevirtual 211, 3) := by decide +kernel
theorem dX9_batch_63 : decode cX9_batch 63 = .ok (.ifCond .eq 7, 3) := by decide +kernel
theorem dX9_batch_66 : decode cX9_batch 66 = .ok (.iconst 1, 1) := by decide +kernel
theorem dX9_batch_67 : decode cX9_batch 67 = .ok (.goto 4, 3) := by decide +kernel
theorem dX9_batch_70 : decode cX9_batch 70 = .ok (.iconst 0, 1) := by decide +kernel
theorem dX9_batch_71 : decode cX9_batch 71 = .ok (.iadd, 1) := by decide +kernel
theorem dX9_batch_72 : decode cX9_batch 72 = .ok (.istore 4, 2) := by decide +kernel
theorem dX9_batch_74 : decode cX9_batch 74 = .ok (.iinc 5 1, 3) := by decide +kernel
theorem dX9_batch_77 : decode cX9_batch 77 = .ok (.goto (-33), 3) := by decide +kernel
theorem dX9_batch_80 : decode cX9_batch 80 = .ok (.iload 4, 2) := by decide +kernel
theorem dX9_batch_82 : decode cX9_batch 82 = .ok (.ireturn, 1) := by decide +kernel
theorem dX9_rebuild_0 : decode cX9_rebuild 0 = .ok (.aload_n 0, 1) := by decide +kernel
theorem dX9_rebuild_1 : decode cX9_rebuild 1 = .ok (.invokevirtual 128, 3) := by decide +kernel
theorem dX9_rebuild_4 : decode cX9_rebuild 4 = .ok (.istore_n 1, 1) := by decide +kernel
theorem dX9_rebuild_5 : decode cX9_rebuild 5 = .ok (.aload_n 0, 1) := by decide +kernel
theorem dX9_rebuild_6 : decode cX9_rebuild 6 = .ok (.invokevirtual 201, 3) := by decide +kernel
theorem dX9_rebuild_9 : decode cX9_rebuild 9 = .ok (.aload_n 0, 1) := by decide +kernel
theorem dX9_rebuild_10 : decode cX9_rebuild 10 = .ok (.iconst (-1), 1) := by decide +kernel
theorem dX9_rebuild_11 : decode cX9_rebuild 11 = .ok (.iconst 0, 1) := by decide +kernel
theorem dX9_rebuild_12 : decode cX9_rebuild 12 = .ok (.invokevirtual 140, 3) := by decide +kernel
theorem dX9_rebuild_15 : decode cX9_rebuild 15 = .ok (.istore_n 2, 1) := by decide +kernel
theorem dX9_rebuild_16 : decode cX9_rebuild 16 = .ok (.iconst 0, 1) := by decide +kernel
theorem dX9_rebuild_17 : decode cX9_rebuild 17 = .ok (.istore_n 3, 1) := by decide +kernel
theorem dX9_rebuild_18 : decode cX9_rebuild 18 = .ok (.iload_n 3, 1) := by decide +kernel
theorem dX9_rebuild_19 : decode cX9_rebuild 19 = .ok (.iload_n 1, 1) := by decide +kernel
theorem dX9_rebuild_20 : decode cX9_rebuild 20 = .ok (.if_icmp .ge 39, 3) := by decide +kernel
theorem dX9_rebuild_23 : decode cX9_rebuild 23 = .ok (.aload_n 0, 1) := by decide +kernel
theorem dX9_rebuild_24 : decode cX9_rebuild 24 = .ok (.getfield 47, 3) := by decide +kernel
theorem dX9_rebuild_27 : decode cX9_rebuild 27 = .ok (.iload_n 3, 1) := by decide +kernel
theorem dX9_rebuild_28 : decode cX9_rebuild 28 = .ok (.iload_n 2, 1) := by decide +kernel
theorem dX9_rebuild_29 : decode cX9_rebuild 29 = .ok (.iastore, 1) := by decide +kernel
theorem dX9_rebuild_30 : decode cX9_rebuild 30 = .ok (.aload_n 0, 1) := by decide +kernel
theorem dX9_rebuild_31 : decode cX9_rebuild 31 = .ok (.getfield 50, 3) := by decide +kernel
theorem dX9_rebuild_34 : decode cX9_rebuild 34 = .ok (.iload_n 3, 1) := by decide +kernel
theorem dX9_rebuild_35 : decode cX9_rebuild 35 = .ok (.aload_n 0, 1) := by decide +kernel
theorem dX9_rebuild_36 : decode cX9_rebuild 36 = .ok (.aload_n 0, 1) := by decide +kernel
theorem dX9_rebuild_37 : decode cX9_rebuild 37 = .ok (.iload_n 2, 1) := by decide +kernel
theorem dX9_rebuild_38 : decode cX9_rebuild 38 = .ok (.invokevirtual 134, 3) := by decide +kernel
theorem dX9_rebuild_41 : decode cX9_rebuild 41 = .ok (.iconst 1, 1) := by decide +kernel
theorem dX9_rebuild_42 : decode cX9_rebuild 42 = .ok (.invokevirtual 63, 3) := by decide +kernel
theorem dX9_rebuild_45 : decode cX9_rebuild 45 = .ok (.iastore, 1) := by decide +kernel
theorem dX9_rebuild_46 : decode cX9_rebuild 46 = .ok (.aload_n 0, 1) := by decide +kernel
theorem dX9_rebuild_47 : decode cX9_rebuild 47 = .ok (.iload_n 2, 1) := by decide +kernel
theorem dX9_rebuild_48 : decode cX9_rebuild 48 = .ok (.iconst 0, 1) := by decide +kernel
theorem dX9_rebuild_49 : decode cX9_rebuild 49 = .ok (.invokevirtual 140, 3) := by decide +kernel
theorem dX9_rebuild_52 : decode cX9_rebuild 52 = .ok (.istore_n 2, 1) := by decide +kernel
theorem dX9_rebuild_53 : decode cX9_rebuild 53 = .ok (.iinc 3 1, 3) := by decide +kernel
theorem dX9_rebuild_56 : decode cX9_rebuild 56 = .ok (.goto (-38), 3) := by decide +kernel
theorem dX9_rebuild_59 : decode cX9_rebuild 59 = .ok (.aload_n 0, 1) := by decide +kernel
theorem dX9_rebuild_60 : decode cX9_rebuild 60 = .ok (.invokevirtual 60, 3) := by decide +kernel
theorem dX9_rebuild_63 : decode cX9_rebuild 63 = .ok (.iconst 0, 1) := by decide +kernel
theorem dX9_rebuild_64 : decode cX9_rebuild 64 = .ok (.istore_n 3, 1) := by decide +kernel
theorem dX9_rebuild_65 : decode cX9_rebuild 65 = .ok (.iload_n 3, 1) := by decide +kernel
theorem dX9_rebuild_66 : decode cX9_rebuild 66 = .ok (.iload_n 1, 1) := by decide +kernel
theorem dX9_rebuild_67 : decode cX9_rebuild 67 = .ok (.if_icmp .ge 25, 3) := by decide +kernel
theorem dX9_rebuild_70 : decode cX9_rebuild 70 = .ok (.aload_n 0, 1) := by decide +kernel
theorem dX9_rebuild_71 : decode cX9_rebuild 71 = .ok (.aload_n 0, 1) := by decide +kernel
theorem dX9_rebuild_72 : decode cX9_rebuild 72 = .ok (.getfield 47, 3) := by decide +kernel
theorem dX9_rebuild_75 : decode cX9_rebuild 75 = .ok (.iload_n 3, 1) := by decide +kernel
theorem dX9_rebuild_76 : decode cX9_rebuild 76 = .ok (.iaload, 1) := by decide +kernel
theorem dX9_rebuild_77 : decode cX9_rebuild 77 = .ok (.aload_n 0, 1) := by decide +kernel
theorem dX9_rebuild_78 : decode cX9_rebuild 78 = .ok (.getfield 50, 3) := by decide +kernel
theorem dX9_rebuild_81 : decode cX9_rebuild 81 = .ok (.iload_n 3, 1) := by decide +kernel
theorem dX9_rebuild_82 : decode cX9_rebuild 82 = .ok (.iaload, 1) := by decide +kernel
theorem dX9_rebuild_83 : decode cX9_rebuild 83 = .ok (.invokevirtual 204, 3) := by decide +kernel
theorem dX9_rebuild_86 : decode cX9_rebuild 86 = .ok (.iinc 3 1, 3) := by decide +kernel
theorem dX9_rebuild_89 : decode cX9_rebuild 89 = .ok (.goto (-24), 3) := by decide +kernel
theorem dX9_rebuild_92 : decode cX9_rebuild 92 = .ok (.aload_n 0, 1) := by decide +kernel
theorem dX9_rebuild_93 : decode cX9_rebuild 93 = .ok (.invokevirtual 149, 3) := by decide +kernel
theorem dX9_rebuild_96 : decode cX9_rebuild 96 = .ok (.ireturn, 1) := by decide +kernel
theorem dX9_nextInImage_0 : decode cX9_nextInImage 0 = .ok (.iconst (-1), 1) := by decide +kernel
theorem dX9_nextInImage_1 : decode cX9_nextInImage 1 = .ok (.istore_n 3, 1) := by decide +kernel
theorem dX9_nextInImage_2 : decode cX9_nextInImage 2 = .ok (.iconst 0, 1) := by decide +kernel
theorem dX9_nextInImage_3 : decode cX9_nextInImage 3 = .ok (.istore 4, 2) := by decide +kernel
theorem dX9_nextInImage_5 : decode cX9_nextInImage 5 = .ok (.iload 4, 2) := by decide +kernel
theorem dX9_nextInImage_7 : decode cX9_nextInImage 7 = .ok (.bipush 60, 2) := by decide +kernel
theorem dX9_nextInImage_9 : decode cX9_nextInImage 9 = .ok (.if_icmp .ge 77, 3) := by decide +kernel
theorem dX9_nextInImage_12 : decode cX9_nextInImage 12 = .ok (.aload_n 0, 1) := by decide +kernel
theorem dX9_nextInImage_13 : decode cX9_nextInImage 13 = .ok (.getfield 16, 3) := by decide +kernel
theorem dX9_nextInImage_16 : decode cX9_nextInImage 16 = .ok (.sipush 368, 3) := by decide +kernel
theorem dX9_nextInImage_19 : decode cX9_nextInImage 19 = .ok (.iload_n 1, 1) := by decide +kernel
theorem dX9_nextInImage_20 : decode cX9_nextInImage 20 = .ok (.imul, 1) := by decide +kernel
theorem dX9_nextInImage_21 : decode cX9_nextInImage 21 = .ok (.bipush 6, 2) := by decide +kernel
theorem dX9_nextInImage_23 : decode cX9_nextInImage 23 = .ok (.iload 4, 2) := by decide +kernel
theorem dX9_nextInImage_25 : decode cX9_nextInImage 25 = .ok (.imul, 1) := by decide +kernel
theorem dX9_nextInImage_26 : decode cX9_nextInImage 26 = .ok (.iadd, 1) := by decide +kernel
theorem dX9_nextInImage_27 : decode cX9_nextInImage 27 = .ok (.iaload, 1) := by decide +kernel
theorem dX9_nextInImage_28 : decode cX9_nextInImage 28 = .ok (.istore 5, 2) := by decide +kernel
theorem dX9_nextInImage_30 : decode cX9_nextInImage 30 = .ok (.iload 5, 2) := by decide +kernel
theorem dX9_nextInImage_32 : decode cX9_nextInImage 32 = .ok (.iload_n 2, 1) := by decide +kernel
theorem dX9_nextInImage_33 : decode cX9_nextInImage 33 = .ok (.if_icmp .le 32, 3) := by decide +kernel
theorem dX9_nextInImage_36 : decode cX9_nextInImage 36 = .ok (.iload_n 3, 1) := by decide +kernel
theorem dX9_nextInImage_37 : decode cX9_nextInImage 37 = .ok (.iconst (-1), 1) := by decide +kernel
theorem dX9_nextInImage_38 : decode cX9_nextInImage 38 = .ok (.if_icmp .eq 23, 3) := by decide +kernel
theorem dX9_nextInImage_41 : decode cX9_nextInImage 41 = .ok (.iload 5, 2) := by decide +kernel
theorem dX9_nextInImage_43 : decode cX9_nextInImage 43 = .ok (.aload_n 0, 1) := by decide +kernel
theorem dX9_nextInImage_44 : decode cX9_nextInImage 44 = .ok (.getfield 16, 3) := by decide +kernel
theorem dX9_nextInImage_47 : decode cX9_nextInImage 47 = .ok (.sipush 368, 3) := by decide +kernel
theorem dX9_nextInImage_50 : decode cX9_nextInImage 50 = .ok (.iload_n 1, 1) := by decide +kernel
theorem dX9_nextInImage_51 : decode cX9_nextInImage 51 = .ok (.imul, 1) := by decide +kernel
theorem dX9_nextInImage_52 : decode cX9_nextInImage 52 = .ok (.bipush 6, 2) := by decide +kernel
theorem dX9_nextInImage_54 : decode cX9_nextInImage 54 = .ok (.iload_n 3, 1) := by decide +kernel
theorem dX9_nextInImage_55 : decode cX9_nextInImage 55 = .ok (.imul, 1) := by decide +kernel
theorem dX9_nextInImage_56 : decode cX9_nextInImage 56 = .ok (.iadd, 1) := by decide +kernel
theorem dX9_nextInImage_57 : decode cX9_nextInImage 57 = .ok (.iaload, 1) := by decide +kernel
theorem dX9_nextInImage_58 : decode cX9_nextInImage 58 = .ok (.if_icmp .ge 7, 3) := by decide +kernel
theorem dX9_nextInImage_61 : decode cX9_nextInImage 61 = .ok (.iconst 1, 1) := by decide +kernel
theorem dX9_nextInImage_62 : decode cX9_nextInImage 62 = .ok (.goto 4, 3) := by decide +kernel
theorem dX9_nextInImage_65 : decode cX9_nextInImage 65 = .ok (.iconst 0, 1) := by decide +kernel
theorem dX9_nextInImage_66 : decode cX9_nextInImage 66 = .ok (.istore 6, 2) := by decide +kernel
theorem dX9_nextInImage_68 : decode cX9_nextInImage 68 = .ok (.iload 6, 2) := by decide +kernel
theorem dX9_nextInImage_70 : decode cX9_nextInImage 70 = .ok (.ifCond .eq 8, 3) := by decide +kernel
theorem dX9_nextInImage_73 : decode cX9_nextInImage 73 = .ok (.iload 4, 2) := by decide +kernel
theorem dX9_nextInImage_75 : decode cX9_nextInImage 75 = .ok (.goto 4, 3) := by decide +kernel
theorem dX9_nextInImage_78 : decode cX9_nextInImage 78 = .ok (.iload_n 3, 1) := by decide +kernel
theorem dX9_nextInImage_79 : decode cX9_nextInImage 79 = .ok (.istore_n 3, 1) := by decide +kernel
theorem dX9_nextInImage_80 : decode cX9_nextInImage 80 = .ok (.iinc 4 1, 3) := by decide +kernel
theorem dX9_nextInImage_83 : decode cX9_nextInImage 83 = .ok (.goto (-78), 3) := by decide +kernel
theorem dX9_nextInImage_86 : decode cX9_nextInImage 86 = .ok (.iload_n 3, 1) := by decide +kernel
theorem dX9_nextInImage_87 : decode cX9_nextInImage 87 = .ok (.ireturn, 1) := by decide +kernel
theorem dX9_join_0 : decode cX9_join 0 = .ok (.iload_n 1, 1) := by decide +kernel
theorem dX9_join_1 : decode cX9_join 1 = .ok (.i2l, 1) := by decide +kernel
theorem dX9_join_2 : decode cX9_join 2 = .ok (.lconst 0, 1) := by decide +kernel
theorem dX9_join_3 : decode cX9_join 3 = .ok (.lconst 1, 1) := by decide +kernel
theorem dX9_join_4 : decode cX9_join 4 = .ok (.invokestatic 172, 3) := by decide +kernel
theorem dX9_join_7 : decode cX9_join 7 = .ok (.ifCond .ne 6, 3) := by decide +kernel
theorem dX9_join_10 : decode cX9_join 10 = .ok (.ldc 179, 2) := by decide +kernel
theorem dX9_join_12 : decode cX9_join 12 = .ok (.ireturn, 1) := by decide +kernel
theorem dX9_join_13 : decode cX9_join 13 = .ok (.aload_n 0, 1) := by decide +kernel
theorem dX9_join_14 : decode cX9_join 14 = .ok (.getfield 22, 3) := by decide +kernel
theorem dX9_join_17 : decode cX9_join 17 = .ok (.iload_n 1, 1) := by decide +kernel
theorem dX9_join_18 : decode cX9_join 18 = .ok (.baload, 1) := by decide +kernel
theorem dX9_join_19 : decode cX9_join 19 = .ok (.ifCond .ne 6, 3) := by decide +kernel
theorem dX9_join_22 : decode cX9_join 22 = .ok (.ldc 199, 2) := by decide +kernel
theorem dX9_join_24 : decode cX9_join 24 = .ok (.ireturn, 1) := by decide +kernel
theorem dX9_join_25 : decode cX9_join 25 = .ok (.iconst 0, 1) := by decide +kernel
theorem dX9_join_26 : decode cX9_join 26 = .ok (.istore_n 2, 1) := by decide +kernel
theorem dX9_join_27 : decode cX9_join 27 = .ok (.aload_n 0, 1) := by decide +kernel
theorem dX9_join_28 : decode cX9_join 28 = .ok (.invokevirtual 201, 3) := by decide +kernel
theorem dX9_join_31 : decode cX9_join 31 = .ok (.aload_n 0, 1) := by decide +kernel
theorem dX9_join_32 : decode cX9_join 32 = .ok (.iload_n 1, 1) := by decide +kernel
theorem dX9_join_33 : decode cX9_join 33 = .ok (.aload_n 0, 1) := by decide +kernel
theorem dX9_join_34 : decode cX9_join 34 = .ok (.ldc 214, 2) := by decide +kernel
theorem dX9_join_36 : decode cX9_join 36 = .ok (.iconst 1, 1) := by decide +kernel
theorem dX9_join_37 : decode cX9_join 37 = .ok (.invokevirtual 140, 3) := by decide +kernel
theorem dX9_join_40 : decode cX9_join 40 = .ok (.invokevirtual 215, 3) := by decide +kernel
theorem dX9_join_43 : decode cX9_join 43 = .ok (.istore_n 3, 1) := by decide +kernel
theorem dX9_join_44 : decode cX9_join 44 = .ok (.iload_n 3, 1) := by decide +kernel
theorem dX9_join_45 : decode cX9_join 45 = .ok (.iconst (-1), 1) := by decide +kernel
theorem dX9_join_46 : decode cX9_join 46 = .ok (.if_icmp .eq 65, 3) := by decide +kernel
theorem dX9_join_49 : decode cX9_join 49 = .ok (.aload_n 0, 1) := by decide +kernel
theorem dX9_join_50 : decode cX9_join 50 = .ok (.getfield 16, 3) := by decide +kernel
theorem dX9_join_53 : decode cX9_join 53 = .ok (.sipush 368, 3) := by decide +kernel
theorem dX9_join_56 : decode cX9_join 56 = .ok (.iload_n 1, 1) := by decide +kernel
theorem dX9_join_57 : decode cX9_join 57 = .ok (.imul, 1) := by decide +kernel
theorem dX9_join_58 : decode cX9_join 58 = .ok (.bipush 6, 2) := by decide +kernel
theorem dX9_join_60 : decode cX9_join 60 = .ok (.iload_n 3, 1) := by decide +kernel
theorem dX9_join_61 : decode cX9_join 61 = .ok (.imul, 1) := by decide +kernel
theorem dX9_join_62 : decode cX9_join 62 = .ok (.iadd, 1) := by decide +kernel
theorem dX9_join_63 : decode cX9_join 63 = .ok (.iaload, 1) := by decide +kernel
theorem dX9_join_64 : decode cX9_join 64 = .ok (.istore 4, 2) := by decide +kernel
theorem dX9_join_66 : decode cX9_join 66 = .ok (.iload_n 2, 1) := by decide +kernel
theorem dX9_join_67 : decode cX9_join 67 = .ok (.aload_n 0, 1) := by decide +kernel
theorem dX9_join_68 : decode cX9_join 68 = .ok (.iload 4, 2) := by decide +kernel
theorem dX9_join_70 : decode cX9_join 70 = .ok (.aload_n 0, 1) := by decide +kernel
theorem dX9_join_71 : decode cX9_join 71 = .ok (.getfield 16, 3) := by decide +kernel
theorem dX9_join_74 : decode cX9_join 74 = .ok (.sipush 368, 3) := by decide +kernel
theorem dX9_join_77 : decode cX9_join 77 = .ok (.iload_n 1, 1) := by decide +kernel
theorem dX9_join_78 : decode cX9_join 78 = .ok (.imul, 1) := by decide +kernel
theorem dX9_join_79 : decode cX9_join 79 = .ok (.bipush 6, 2) := by decide +kernel
theorem dX9_join_81 : decode cX9_join 81 = .ok (.iload_n 3, 1) := by decide +kernel
theorem dX9_join_82 : decode cX9_join 82 = .ok (.imul, 1) := by decide +kernel
