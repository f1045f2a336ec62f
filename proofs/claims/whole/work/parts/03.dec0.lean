theorem dX0_init_0 : decode cX0_init 0 = .ok (.aload_n 0, 1) := by decide +kernel
theorem dX0_init_1 : decode cX0_init 1 = .ok (.invokespecial 3, 3) := by decide +kernel
theorem dX0_init_4 : decode cX0_init 4 = .ok (.aload_n 0, 1) := by decide +kernel
theorem dX0_init_5 : decode cX0_init 5 = .ok (.bipush 36, 2) := by decide +kernel
theorem dX0_init_7 : decode cX0_init 7 = .ok (.newarray .int, 2) := by decide +kernel
theorem dX0_init_9 : decode cX0_init 9 = .ok (.putfield 9, 3) := by decide +kernel
theorem dX0_init_12 : decode cX0_init 12 = .ok (.aload_n 0, 1) := by decide +kernel
theorem dX0_init_13 : decode cX0_init 13 = .ok (.bipush 78, 2) := by decide +kernel
theorem dX0_init_15 : decode cX0_init 15 = .ok (.newarray .long, 2) := by decide +kernel
theorem dX0_init_17 : decode cX0_init 17 = .ok (.putfield 15, 3) := by decide +kernel
theorem dX0_init_20 : decode cX0_init 20 = .ok (.aload_n 0, 1) := by decide +kernel
theorem dX0_init_21 : decode cX0_init 21 = .ok (.bipush 6, 2) := by decide +kernel
theorem dX0_init_23 : decode cX0_init 23 = .ok (.newarray .long, 2) := by decide +kernel
theorem dX0_init_25 : decode cX0_init 25 = .ok (.putfield 19, 3) := by decide +kernel
theorem dX0_init_28 : decode cX0_init 28 = .ok (.aload_n 0, 1) := by decide +kernel
theorem dX0_init_29 : decode cX0_init 29 = .ok (.sipush 288, 3) := by decide +kernel
theorem dX0_init_32 : decode cX0_init 32 = .ok (.newarray .int, 2) := by decide +kernel
theorem dX0_init_34 : decode cX0_init 34 = .ok (.putfield 22, 3) := by decide +kernel
theorem dX0_init_37 : decode cX0_init 37 = .ok (.aload_n 0, 1) := by decide +kernel
theorem dX0_init_38 : decode cX0_init 38 = .ok (.sipush 288, 3) := by decide +kernel
theorem dX0_init_41 : decode cX0_init 41 = .ok (.newarray .int, 2) := by decide +kernel
theorem dX0_init_43 : decode cX0_init 43 = .ok (.putfield 25, 3) := by decide +kernel
theorem dX0_init_46 : decode cX0_init 46 = .ok (.return_, 1) := by decide +kernel
theorem dX0_measureWays_0 : decode cX0_measureWays 0 = .ok (.iconst 0, 1) := by decide +kernel
theorem dX0_measureWays_1 : decode cX0_measureWays 1 = .ok (.istore_n 3, 1) := by decide +kernel
theorem dX0_measureWays_2 : decode cX0_measureWays 2 = .ok (.iload_n 3, 1) := by decide +kernel
theorem dX0_measureWays_3 : decode cX0_measureWays 3 = .ok (.aload_n 0, 1) := by decide +kernel
theorem dX0_measureWays_4 : decode cX0_measureWays 4 = .ok (.getfield 9, 3) := by decide +kernel
theorem dX0_measureWays_7 : decode cX0_measureWays 7 = .ok (.arraylength, 1) := by decide +kernel
theorem dX0_measureWays_8 : decode cX0_measureWays 8 = .ok (.if_icmp .ge 32, 3) := by decide +kernel
theorem dX0_measureWays_11 : decode cX0_measureWays 11 = .ok (.aload_n 0, 1) := by decide +kernel
theorem dX0_measureWays_12 : decode cX0_measureWays 12 = .ok (.getfield 9, 3) := by decide +kernel
theorem dX0_measureWays_15 : decode cX0_measureWays 15 = .ok (.iload_n 3, 1) := by decide +kernel
theorem dX0_measureWays_16 : decode cX0_measureWays 16 = .ok (.iload_n 3, 1) := by decide +kernel
theorem dX0_measureWays_17 : decode cX0_measureWays 17 = .ok (.bipush 6, 2) := by decide +kernel
theorem dX0_measureWays_19 : decode cX0_measureWays 19 = .ok (.idiv, 1) := by decide +kernel
theorem dX0_measureWays_20 : decode cX0_measureWays 20 = .ok (.iload_n 3, 1) := by decide +kernel
theorem dX0_measureWays_21 : decode cX0_measureWays 21 = .ok (.bipush 6, 2) := by decide +kernel
theorem dX0_measureWays_23 : decode cX0_measureWays 23 = .ok (.irem, 1) := by decide +kernel
theorem dX0_measureWays_24 : decode cX0_measureWays 24 = .ok (.if_icmp .ne 7, 3) := by decide +kernel
theorem dX0_measureWays_27 : decode cX0_measureWays 27 = .ok (.iconst 0, 1) := by decide +kernel
theorem dX0_measureWays_28 : decode cX0_measureWays 28 = .ok (.goto 5, 3) := by decide +kernel
theorem dX0_measureWays_31 : decode cX0_measureWays 31 = .ok (.ldc 28, 2) := by decide +kernel
theorem dX0_measureWays_33 : decode cX0_measureWays 33 = .ok (.iastore, 1) := by decide +kernel
theorem dX0_measureWays_34 : decode cX0_measureWays 34 = .ok (.iinc 3 1, 3) := by decide +kernel
theorem dX0_measureWays_37 : decode cX0_measureWays 37 = .ok (.goto (-35), 3) := by decide +kernel
theorem dX0_measureWays_40 : decode cX0_measureWays 40 = .ok (.aload_n 1, 1) := by decide +kernel
theorem dX0_measureWays_41 : decode cX0_measureWays 41 = .ok (.getfield 29, 3) := by decide +kernel
theorem dX0_measureWays_44 : decode cX0_measureWays 44 = .ok (.astore_n 3, 1) := by decide +kernel
theorem dX0_measureWays_45 : decode cX0_measureWays 45 = .ok (.iconst 0, 1) := by decide +kernel
theorem dX0_measureWays_46 : decode cX0_measureWays 46 = .ok (.istore 4, 2) := by decide +kernel
theorem dX0_measureWays_48 : decode cX0_measureWays 48 = .ok (.iload 4, 2) := by decide +kernel
theorem dX0_measureWays_50 : decode cX0_measureWays 50 = .ok (.aload_n 3, 1) := by decide +kernel
theorem dX0_measureWays_51 : decode cX0_measureWays 51 = .ok (.getfield 35, 3) := by decide +kernel
theorem dX0_measureWays_54 : decode cX0_measureWays 54 = .ok (.if_icmp .ge 109, 3) := by decide +kernel
theorem dX0_measureWays_57 : decode cX0_measureWays 57 = .ok (.aload_n 3, 1) := by decide +kernel
theorem dX0_measureWays_58 : decode cX0_measureWays 58 = .ok (.iload 4, 2) := by decide +kernel
theorem dX0_measureWays_60 : decode cX0_measureWays 60 = .ok (.iconst 0, 1) := by decide +kernel
theorem dX0_measureWays_61 : decode cX0_measureWays 61 = .ok (.invokevirtual 41, 3) := by decide +kernel
theorem dX0_measureWays_64 : decode cX0_measureWays 64 = .ok (.istore 5, 2) := by decide +kernel
theorem dX0_measureWays_66 : decode cX0_measureWays 66 = .ok (.aload_n 3, 1) := by decide +kernel
theorem dX0_measureWays_67 : decode cX0_measureWays 67 = .ok (.iload 4, 2) := by decide +kernel
theorem dX0_measureWays_69 : decode cX0_measureWays 69 = .ok (.iconst 1, 1) := by decide +kernel
theorem dX0_measureWays_70 : decode cX0_measureWays 70 = .ok (.invokevirtual 41, 3) := by decide +kernel
theorem dX0_measureWays_73 : decode cX0_measureWays 73 = .ok (.istore 6, 2) := by decide +kernel
theorem dX0_measureWays_75 : decode cX0_measureWays 75 = .ok (.iload 4, 2) := by decide +kernel
theorem dX0_measureWays_77 : decode cX0_measureWays 77 = .ok (.iload_n 2, 1) := by decide +kernel
theorem dX0_measureWays_78 : decode cX0_measureWays 78 = .ok (.if_icmp .eq 79, 3) := by decide +kernel
theorem dX0_measureWays_81 : decode cX0_measureWays 81 = .ok (.aload_n 1, 1) := by decide +kernel
theorem dX0_measureWays_82 : decode cX0_measureWays 82 = .ok (.getfield 45, 3) := by decide +kernel
theorem dX0_measureWays_85 : decode cX0_measureWays 85 = .ok (.iload 5, 2) := by decide +kernel
theorem dX0_measureWays_87 : decode cX0_measureWays 87 = .ok (.invokevirtual 48, 3) := by decide +kernel
theorem dX0_measureWays_90 : decode cX0_measureWays 90 = .ok (.ifCond .eq 67, 3) := by decide +kernel
theorem dX0_measureWays_93 : decode cX0_measureWays 93 = .ok (.aload_n 1, 1) := by decide +kernel
theorem dX0_measureWays_94 : decode cX0_measureWays 94 = .ok (.getfield 45, 3) := by decide +kernel
theorem dX0_measureWays_97 : decode cX0_measureWays 97 = .ok (.iload 6, 2) := by decide +kernel
theorem dX0_measureWays_99 : decode cX0_measureWays 99 = .ok (.invokevirtual 48, 3) := by decide +kernel
theorem dX0_measureWays_102 : decode cX0_measureWays 102 = .ok (.ifCond .eq 55, 3) := by decide +kernel
theorem dX0_measureWays_105 : decode cX0_measureWays 105 = .ok (.aload_n 3, 1) := by decide +kernel
theorem dX0_measureWays_106 : decode cX0_measureWays 106 = .ok (.iload 4, 2) := by decide +kernel
theorem dX0_measureWays_108 : decode cX0_measureWays 108 = .ok (.iconst 2, 1) := by decide +kernel
theorem dX0_measureWays_109 : decode cX0_measureWays 109 = .ok (.invokevirtual 41, 3) := by decide +kernel
theorem dX0_measureWays_112 : decode cX0_measureWays 112 = .ok (.aload_n 3, 1) := by decide +kernel
theorem dX0_measureWays_113 : decode cX0_measureWays 113 = .ok (.iload 4, 2) := by decide +kernel
theorem dX0_measureWays_115 : decode cX0_measureWays 115 = .ok (.iconst 3, 1) := by decide +kernel
theorem dX0_measureWays_116 : decode cX0_measureWays 116 = .ok (.invokevirtual 41, 3) := by decide +kernel
theorem dX0_measureWays_119 : decode cX0_measureWays 119 = .ok (.aload_n 1, 1) := by decide +kernel
theorem dX0_measureWays_120 : decode cX0_measureWays 120 = .ok (.getfield 52, 3) := by decide +kernel
theorem dX0_measureWays_123 : decode cX0_measureWays 123 = .ok (.imul, 1) := by decide +kernel
theorem dX0_measureWays_124 : decode cX0_measureWays 124 = .ok (.iadd, 1) := by decide +kernel
theorem dX0_measureWays_125 : decode cX0_measureWays 125 = .ok (.istore 7, 2) := by decide +kernel
theorem dX0_measureWays_127 : decode cX0_measureWays 127 = .ok (.aload_n 0, 1) := by decide +kernel
theorem dX0_measureWays_128 : decode cX0_measureWays 128 = .ok (.getfield 9, 3) := by decide +kernel
theorem dX0_measureWays_131 : decode cX0_measureWays 131 = .ok (.iload 5, 2) := by decide +kernel
theorem dX0_measureWays_133 : decode cX0_measureWays 133 = .ok (.bipush 6, 2) := by decide +kernel
theorem dX0_measureWays_135 : decode cX0_measureWays 135 = .ok (.imul, 1) := by decide +kernel
theorem dX0_measureWays_136 : decode cX0_measureWays 136 = .ok (.iload 6, 2) := by decide +kernel
theorem dX0_measureWays_138 : decode cX0_measureWays 138 = .ok (.iadd, 1) := by decide +kernel
theorem dX0_measureWays_139 : decode cX0_measureWays 139 = .ok (.iload 7, 2) := by decide +kernel
theorem dX0_measureWays_141 : decode cX0_measureWays 141 = .ok (.iastore, 1) := by decide +kernel
theorem dX0_measureWays_142 : decode cX0_measureWays 142 = .ok (.aload_n 0, 1) := by decide +kernel
theorem dX0_measureWays_143 : decode cX0_measureWays 143 = .ok (.getfield 9, 3) := by decide +kernel
theorem dX0_measureWays_146 : decode cX0_measureWays 146 = .ok (.iload 6, 2) := by decide +kernel
theorem dX0_measureWays_148 : decode cX0_measureWays 148 = .ok (.bipush 6, 2) := by decide +kernel
theorem dX0_measureWays_150 : decode cX0_measureWays 150 = .ok (.imul, 1) := by decide +kernel
theorem dX0_measureWays_151 : decode cX0_measureWays 151 = .ok (.iload 5, 2) := by decide +kernel
theorem dX0_measureWays_153 : decode cX0_measureWays 153 = .ok (.iadd, 1) := by decide +kernel
theorem dX0_measureWays_154 : decode cX0_measureWays 154 = .ok (.iload 7, 2) := by decide +kernel
theorem dX0_measureWays_156 : decode cX0_measureWays 156 = .ok (.iastore, 1) := by decide +kernel
theorem dX0_measureWays_157 : decode cX0_measureWays 157 = .ok (.iinc 4 1, 3) := by decide +kernel
theorem dX0_measureWays_160 : decode cX0_measureWays 160 = .ok (.goto (-112), 3) := by decide +kernel
theorem dX0_measureWays_163 : decode cX0_measureWays 163 = .ok (.aload_n 1, 1) := by decide +kernel
theorem dX0_measureWays_164 : decode cX0_measureWays 164 = .ok (.getfield 45, 3) := by decide +kernel
theorem dX0_measureWays_167 : decode cX0_measureWays 167 = .ok (.getfield 35, 3) := by decide +kernel
theorem dX0_measureWays_170 : decode cX0_measureWays 170 = .ok (.bipush 6, 2) := by decide +kernel
theorem dX0_measureWays_172 : decode cX0_measureWays 172 = .ok (.invokestatic 55, 3) := by decide +kernel
theorem dX0_measureWays_175 : decode cX0_measureWays 175 = .ok (.istore 4, 2) := by decide +kernel
theorem dX0_measureWays_177 : decode cX0_measureWays 177 = .ok (.iconst 0, 1) := by decide +kernel
theorem dX0_measureWays_178 : decode cX0_measureWays 178 = .ok (.istore 5, 2) := by decide +kernel
theorem dX0_measureWays_180 : decode cX0_measureWays 180 = .ok (.iload 5, 2) := by decide +kernel
theorem dX0_measureWays_182 : decode cX0_measureWays 182 = .ok (.iload 4, 2) := by decide +kernel
theorem dX0_measureWays_184 : decode cX0_measureWays 184 = .ok (.if_icmp .ge 103, 3) := by decide +kernel
theorem dX0_measureWays_187 : decode cX0_measureWays 187 = .ok (.iconst 0, 1) := by decide +kernel
theorem dX0_measureWays_188 : decode cX0_measureWays 188 = .ok (.istore 6, 2) := by decide +kernel
theorem dX0_measureWays_190 : decode cX0_measureWays 190 = .ok (.iload 6, 2) := by decide +kernel
theorem dX0_measureWays_192 : decode cX0_measureWays 192 = .ok (.iload 4, 2) := by decide +kernel
theorem dX0_measureWays_194 : decode cX0_measureWays 194 = .ok (.if_icmp .ge 87, 3) := by decide +kernel
theorem dX0_measureWays_197 : decode cX0_measureWays 197 = .ok (.iconst 0, 1) := by decide +kernel
theorem dX0_measureWays_198 : decode cX0_measureWays 198 = .ok (.istore 7, 2) := by decide +kernel
theorem dX0_measureWays_200 : decode cX0_measureWays 200 = .ok (.iload 7, 2) := by decide +kernel
theorem dX0_measureWays_202 : decode cX0_measureWays 202 = .ok (.iload 4, 2) := by decide +kernel
theorem dX0_measureWays_204 : decode cX0_measureWays 204 = .ok (.if_icmp .ge 71, 3) := by decide +kernel
theorem dX0_measureWays_207 : decode cX0_measureWays 207 = .ok (.aload_n 0, 1) := by decide +kernel
theorem dX0_measureWays_208 : decode cX0_measureWays 208 = .ok (.getfield 9, 3) := by decide +kernel
theorem dX0_measureWays_211 : decode cX0_measureWays 211 = .ok (.iload 6, 2) := by decide +kernel
theorem dX0_measureWays_213 : decode cX0_measureWays 213 = .ok (.bipush 6, 2) := by decide +kernel
theorem dX0_measureWays_215 : decode cX0_measureWays 215 = .ok (.imul, 1) := by decide +kernel
theorem dX0_measureWays_216 : decode cX0_measureWays 216 = .ok (.iload 5, 2) := by decide +kernel
theorem dX0_measureWays_218 : decode cX0_measureWays 218 = .ok (.iadd, 1) := by decide +kernel
theorem dX0_measureWays_219 : decode cX0_measureWays 219 = .ok (.iaload, 1) := by decide +kernel
theorem dX0_measureWays_220 : decode cX0_measureWays 220 = .ok (.aload_n 0, 1) := by decide +kernel
theorem dX0_measureWays_221 : decode cX0_measureWays 221 = .ok (.getfield 9, 3) := by decide +kernel
theorem dX0_measureWays_224 : decode cX0_measureWays 224 = .ok (.iload 5, 2) := by decide +kernel
theorem dX0_measureWays_226 : decode cX0_measureWays 226 = .ok (.bipush 6, 2) := by decide +kernel
theorem dX0_measureWays_228 : decode cX0_measureWays 228 = .ok (.imul, 1) := by decide +kernel
theorem dX0_measureWays_229 : decode cX0_measureWays 229 = .ok (.iload 7, 2) := by decide +kernel
theorem dX0_measureWays_231 : decode cX0_measureWays 231 = .ok (.iadd, 1) := by decide +kernel
theorem dX0_measureWays_232 : decode cX0_measureWays 232 = .ok (.iaload, 1) := by decide +kernel
theorem dX0_measureWays_233 : decode cX0_measureWays 233 = .ok (.iadd, 1) := by decide +kernel
theorem dX0_measureWays_234 : decode cX0_measureWays 234 = .ok (.istore 8, 2) := by decide +kernel
theorem dX0_measureWays_236 : decode cX0_measureWays 236 = .ok (.iload 8, 2) := by decide +kernel
theorem dX0_measureWays_238 : decode cX0_measureWays 238 = .ok (.aload_n 0, 1) := by decide +kernel
theorem dX0_measureWays_239 : decode cX0_measureWays 239 = .ok (.getfield 9, 3) := by decide +kernel
theorem dX0_measureWays_242 : decode cX0_measureWays 242 = .ok (.iload 6, 2) := by decide +kernel
theorem dX0_measureWays_244 : decode cX0_measureWays 244 = .ok (.bipush 6, 2) := by decide +kernel
theorem dX0_measureWays_246 : decode cX0_measureWays 246 = .ok (.imul, 1) := by decide +kernel
theorem dX0_measureWays_247 : decode cX0_measureWays 247 = .ok (.iload 7, 2) := by decide +kernel
theorem dX0_measureWays_249 : decode cX0_measureWays 249 = .ok (.iadd, 1) := by decide +kernel
theorem dX0_measureWays_250 : decode cX0_measureWays 250 = .ok (.iaload, 1) := by decide +kernel
theorem dX0_measureWays_251 : decode cX0_measureWays 251 = .ok (.if_icmp .ge 18, 3) := by decide +kernel
theorem dX0_measureWays_254 : decode cX0_measureWays 254 = .ok (.aload_n 0, 1) := by decide +kernel
theorem dX0_measureWays_255 : decode cX0_measureWays 255 = .ok (.getfield 9, 3) := by decide +kernel
theorem dX0_measureWays_258 : decode cX0_measureWays 258 = .ok (.iload 6, 2) := by decide +kernel
theorem dX0_measureWays_260 : decode cX0_measureWays 260 = .ok (.bipush 6, 2) := by decide +kernel
theorem dX0_measureWays_262 : decode cX0_measureWays 262 = .ok (.imul, 1) := by decide +kernel
theorem dX0_measureWays_263 : decode cX0_measureWays 263 = .ok (.iload 7, 2) := by decide +kernel
theorem dX0_measureWays_265 : decode cX0_measureWays 265 = .ok (.iadd, 1) := by decide +kernel
theorem dX0_measureWays_266 : decode cX0_measureWays 266 = .ok (.iload 8, 2) := by decide +kernel
theorem dX0_measureWays_268 : decode cX0_measureWays 268 = .ok (.iastore, 1) := by decide +kernel
theorem dX0_measureWays_269 : decode cX0_measureWays 269 = .ok (.iinc 7 1, 3) := by decide +kernel
theorem dX0_measureWays_272 : decode cX0_measureWays 272 = .ok (.goto (-72), 3) := by decide +kernel
theorem dX0_measureWays_275 : decode cX0_measureWays 275 = .ok (.iinc 6 1, 3) := by decide +kernel
theorem dX0_measureWays_278 : decode cX0_measureWays 278 = .ok (.goto (-88), 3) := by decide +kernel
theorem dX0_measureWays_281 : decode cX0_measureWays 281 = .ok (.iinc 5 1, 3) := by decide +kernel
theorem dX0_measureWays_284 : decode cX0_measureWays 284 = .ok (.goto (-104), 3) := by decide +kernel
theorem dX0_measureWays_287 : decode cX0_measureWays 287 = .ok (.return_, 1) := by decide +kernel
theorem dX0_way_0 : decode cX0_way 0 = .ok (.iload_n 1, 1) := by decide +kernel
theorem dX0_way_1 : decode cX0_way 1 = .ok (.ifCond .lt 19, 3) := by decide +kernel
theorem dX0_way_4 : decode cX0_way 4 = .ok (.iload_n 1, 1) := by decide +kernel
theorem dX0_way_5 : decode cX0_way 5 = .ok (.bipush 6, 2) := by decide +kernel
theorem dX0_way_7 : decode cX0_way 7 = .ok (.if_icmp .ge 13, 3) := by decide +kernel
theorem dX0_way_10 : decode cX0_way 10 = .ok (.iload_n 2, 1) := by decide +kernel
theorem dX0_way_11 : decode cX0_way 11 = .ok (.ifCond .lt 9, 3) := by decide +kernel
theorem dX0_way_14 : decode cX0_way 14 = .ok (.iload_n 2, 1) := by decide +kernel
theorem dX0_way_15 : decode cX0_way 15 = .ok (.bipush 6, 2) := by decide +kernel
theorem dX0_way_17 : decode cX0_way 17 = .ok (.if_icmp .lt 6, 3) := by decide +kernel
theorem dX0_way_20 : decode cX0_way 20 = .ok (.bipush (-2), 2) := by decide +kernel
theorem dX0_way_22 : decode cX0_way 22 = .ok (.ireturn, 1) := by decide +kernel
theorem dX0_way_23 : decode cX0_way 23 = .ok (.aload_n 0, 1) := by decide +kernel
theorem dX0_way_24 : decode cX0_way 24 = .ok (.getfield 9, 3) := by decide +kernel
theorem dX0_way_27 : decode cX0_way 27 = .ok (.iload_n 1, 1) := by decide +kernel
theorem dX0_way_28 : decode cX0_way 28 = .ok (.bipush 6, 2) := by decide +kernel
theorem dX0_way_30 : decode cX0_way 30 = .ok (.imul, 1) := by decide +kernel
theorem dX0_way_31 : decode cX0_way 31 = .ok (.iload_n 2, 1) := by decide +kernel
theorem dX0_way_32 : decode cX0_way 32 = .ok (.iadd, 1) := by decide +kernel
theorem dX0_way_33 : decode cX0_way 33 = .ok (.iaload, 1) := by decide +kernel
theorem dX0_way_34 : decode cX0_way 34 = .ok (.istore_n 3, 1) := by decide +kernel
theorem dX0_way_35 : decode cX0_way 35 = .ok (.iload_n 3, 1) := by decide +kernel
theorem dX0_way_36 : decode cX0_way 36 = .ok (.ldc 28, 2) := by decide +kernel
theorem dX0_way_38 : decode cX0_way 38 = .ok (.if_icmp .ge 7, 3) := by decide +kernel
theorem dX0_way_41 : decode cX0_way 41 = .ok (.iload_n 3, 1) := by decide +kernel
theorem dX0_way_42 : decode cX0_way 42 = .ok (.goto 5, 3) := by decide +kernel
theorem dX0_way_45 : decode cX0_way 45 = .ok (.bipush (-2), 2) := by decide +kernel
theorem dX0_way_47 : decode cX0_way 47 = .ok (.ireturn, 1) := by decide +kernel
theorem dX0_minutesHeard_0 : decode cX0_minutesHeard 0 = .ok (.aload_n 0, 1) := by decide +kernel
theorem dX0_minutesHeard_1 : decode cX0_minutesHeard 1 = .ok (.iload_n 2, 1) := by decide +kernel
theorem dX0_minutesHeard_2 : decode cX0_minutesHeard 2 = .ok (.iload 6, 2) := by decide +kernel
theorem dX0_minutesHeard_4 : decode cX0_minutesHeard 4 = .ok (.invokevirtual 60, 3) := by decide +kernel
theorem dX0_minutesHeard_7 : decode cX0_minutesHeard 7 = .ok (.istore 7, 2) := by decide +kernel
theorem dX0_minutesHeard_9 : decode cX0_minutesHeard 9 = .ok (.iload 7, 2) := by decide +kernel
theorem dX0_minutesHeard_11 : decode cX0_minutesHeard 11 = .ok (.bipush (-2), 2) := by decide +kernel
theorem dX0_minutesHeard_13 : decode cX0_minutesHeard 13 = .ok (.if_icmp .eq 9, 3) := by decide +kernel
theorem dX0_minutesHeard_16 : decode cX0_minutesHeard 16 = .ok (.iload_n 3, 1) := by decide +kernel
theorem dX0_minutesHeard_17 : decode cX0_minutesHeard 17 = .ok (.iload 4, 2) := by decide +kernel
theorem dX0_minutesHeard_19 : decode cX0_minutesHeard 19 = .ok (.if_icmp .le 5, 3) := by decide +kernel
theorem dX0_minutesHeard_22 : decode cX0_minutesHeard 22 = .ok (.lconst 0, 1) := by decide +kernel
theorem dX0_minutesHeard_23 : decode cX0_minutesHeard 23 = .ok (.lreturn, 1) := by decide +kernel
theorem dX0_minutesHeard_24 : decode cX0_minutesHeard 24 = .ok (.lconst 0, 1) := by decide +kernel
theorem dX0_minutesHeard_25 : decode cX0_minutesHeard 25 = .ok (.lstore 8, 2) := by decide +kernel
theorem dX0_minutesHeard_27 : decode cX0_minutesHeard 27 = .ok (.iload_n 3, 1) := by decide +kernel
theorem dX0_minutesHeard_28 : decode cX0_minutesHeard 28 = .ok (.istore 10, 2) := by decide +kernel
theorem dX0_minutesHeard_30 : decode cX0_minutesHeard 30 = .ok (.iload 10, 2) := by decide +kernel
theorem dX0_minutesHeard_32 : decode cX0_minutesHeard 32 = .ok (.iload 4, 2) := by decide +kernel
theorem dX0_minutesHeard_34 : decode cX0_minutesHeard 34 = .ok (.if_icmp .gt 94, 3) := by decide +kernel
theorem dX0_minutesHeard_37 : decode cX0_minutesHeard 37 = .ok (.aload_n 1, 1) := by decide +kernel
theorem dX0_minutesHeard_38 : decode cX0_minutesHeard 38 = .ok (.getfield 63, 3) := by decide +kernel
theorem dX0_minutesHeard_41 : decode cX0_minutesHeard 41 = .ok (.iload 5, 2) := by decide +kernel
theorem dX0_minutesHeard_43 : decode cX0_minutesHeard 43 = .ok (.iload 7, 2) := by decide +kernel
theorem dX0_minutesHeard_45 : decode cX0_minutesHeard 45 = .ok (.iload 10, 2) := by decide +kernel
theorem dX0_minutesHeard_47 : decode cX0_minutesHeard 47 = .ok (.iconst 0, 1) := by decide +kernel
theorem dX0_minutesHeard_48 : decode cX0_minutesHeard 48 = .ok (.iconst 0, 1) := by decide +kernel
theorem dX0_minutesHeard_49 : decode cX0_minutesHeard 49 = .ok (.iconst 0, 1) := by decide +kernel
theorem dX0_minutesHeard_50 : decode cX0_minutesHeard 50 = .ok (.invokevirtual 67, 3) := by decide +kernel
theorem dX0_minutesHeard_53 : decode cX0_minutesHeard 53 = .ok (.lstore 11, 2) := by decide +kernel
theorem dX0_minutesHeard_55 : decode cX0_minutesHeard 55 = .ok (.lload 11, 2) := by decide +kernel
theorem dX0_minutesHeard_57 : decode cX0_minutesHeard 57 = .ok (.ldc2_w 73, 3) := by decide +kernel
theorem dX0_minutesHeard_60 : decode cX0_minutesHeard 60 = .ok (.lcmp, 1) := by decide +kernel
theorem dX0_minutesHeard_61 : decode cX0_minutesHeard 61 = .ok (.ifCond .ne 11, 3) := by decide +kernel
theorem dX0_minutesHeard_64 : decode cX0_minutesHeard 64 = .ok (.iload 5, 2) := by decide +kernel
theorem dX0_minutesHeard_66 : decode cX0_minutesHeard 66 = .ok (.iload 7, 2) := by decide +kernel
theorem dX0_minutesHeard_68 : decode cX0_minutesHeard 68 = .ok (.isub, 1) := by decide +kernel
theorem dX0_minutesHeard_69 : decode cX0_minutesHeard 69 = .ok (.i2l, 1) := by decide +kernel
theorem dX0_minutesHeard_70 : decode cX0_minutesHeard 70 = .ok (.lstore 11, 2) := by decide +kernel
theorem dX0_minutesHeard_72 : decode cX0_minutesHeard 72 = .ok (.aload_n 1, 1) := by decide +kernel
theorem dX0_minutesHeard_73 : decode cX0_minutesHeard 73 = .ok (.getfield 63, 3) := by decide +kernel
theorem dX0_minutesHeard_76 : decode cX0_minutesHeard 76 = .ok (.getfield 75, 3) := by decide +kernel
theorem dX0_minutesHeard_79 : decode cX0_minutesHeard 79 = .ok (.ifCond .ne 27, 3) := by decide +kernel
theorem dX0_minutesHeard_82 : decode cX0_minutesHeard 82 = .ok (.lload 11, 2) := by decide +kernel
theorem dX0_minutesHeard_84 : decode cX0_minutesHeard 84 = .ok (.lconst 1, 1) := by decide +kernel
theorem dX0_minutesHeard_85 : decode cX0_minutesHeard 85 = .ok (.lcmp, 1) := by decide +kernel
theorem dX0_minutesHeard_86 : decode cX0_minutesHeard 86 = .ok (.ifCond .lt 18, 3) := by decide +kernel
theorem dX0_minutesHeard_89 : decode cX0_minutesHeard 89 = .ok (.lconst 1, 1) := by decide +kernel
theorem dX0_minutesHeard_90 : decode cX0_minutesHeard 90 = .ok (.iload 4, 2) := by decide +kernel
theorem dX0_minutesHeard_92 : decode cX0_minutesHeard 92 = .ok (.iload_n 3, 1) := by decide +kernel
theorem dX0_minutesHeard_93 : decode cX0_minutesHeard 93 = .ok (.isub, 1) := by decide +kernel
theorem dX0_minutesHeard_94 : decode cX0_minutesHeard 94 = .ok (.iconst 1, 1) := by decide +kernel
theorem dX0_minutesHeard_95 : decode cX0_minutesHeard 95 = .ok (.iadd, 1) := by decide +kernel
theorem dX0_minutesHeard_96 : decode cX0_minutesHeard 96 = .ok (.lshl, 1) := by decide +kernel
theorem dX0_minutesHeard_97 : decode cX0_minutesHeard 97 = .ok (.lconst 1, 1) := by decide +kernel
theorem dX0_minutesHeard_98 : decode cX0_minutesHeard 98 = .ok (.lsub, 1) := by decide +kernel
theorem dX0_minutesHeard_99 : decode cX0_minutesHeard 99 = .ok (.iload_n 3, 1) := by decide +kernel
theorem dX0_minutesHeard_100 : decode cX0_minutesHeard 100 = .ok (.lshl, 1) := by decide +kernel
theorem dX0_minutesHeard_101 : decode cX0_minutesHeard 101 = .ok (.goto 4, 3) := by decide +kernel
theorem dX0_minutesHeard_104 : decode cX0_minutesHeard 104 = .ok (.lconst 0, 1) := by decide +kernel
theorem dX0_minutesHeard_105 : decode cX0_minutesHeard 105 = .ok (.lreturn, 1) := by decide +kernel
theorem dX0_minutesHeard_106 : decode cX0_minutesHeard 106 = .ok (.lload 11, 2) := by decide +kernel
theorem dX0_minutesHeard_108 : decode cX0_minutesHeard 108 = .ok (.lconst 1, 1) := by decide +kernel
theorem dX0_minutesHeard_109 : decode cX0_minutesHeard 109 = .ok (.lcmp, 1) := by decide +kernel
theorem dX0_minutesHeard_110 : decode cX0_minutesHeard 110 = .ok (.ifCond .lt 12, 3) := by decide +kernel
theorem dX0_minutesHeard_113 : decode cX0_minutesHeard 113 = .ok (.lload 8, 2) := by decide +kernel
theorem dX0_minutesHeard_115 : decode cX0_minutesHeard 115 = .ok (.lconst 1, 1) := by decide +kernel
theorem dX0_minutesHeard_116 : decode cX0_minutesHeard 116 = .ok (.iload 10, 2) := by decide +kernel
theorem dX0_minutesHeard_118 : decode cX0_minutesHeard 118 = .ok (.lshl, 1) := by decide +kernel
theorem dX0_minutesHeard_119 : decode cX0_minutesHeard 119 = .ok (.lor, 1) := by decide +kernel
theorem dX0_minutesHeard_120 : decode cX0_minutesHeard 120 = .ok (.lstore 8, 2) := by decide +kernel
theorem dX0_minutesHeard_122 : decode cX0_minutesHeard 122 = .ok (.iinc 10 1, 3) := by decide +kernel
theorem dX0_minutesHeard_125 : decode cX0_minutesHeard 125 = .ok (.goto (-95), 3) := by decide +kernel
theorem dX0_minutesHeard_128 : decode cX0_minutesHeard 128 = .ok (.lload 8, 2) := by decide +kernel
theorem dX0_minutesHeard_130 : decode cX0_minutesHeard 130 = .ok (.lreturn, 1) := by decide +kernel
theorem dX0_listen_0 : decode cX0_listen 0 = .ok (.iconst 0, 1) := by decide +kernel
theorem dX0_listen_1 : decode cX0_listen 1 = .ok (.istore_n 2, 1) := by decide +kernel
theorem dX0_listen_2 : decode cX0_listen 2 = .ok (.iload_n 2, 1) := by decide +kernel
theorem dX0_listen_3 : decode cX0_listen 3 = .ok (.bipush 6, 2) := by decide +kernel
theorem dX0_listen_5 : decode cX0_listen 5 = .ok (.if_icmp .ge 33, 3) := by decide +kernel
theorem dX0_listen_8 : decode cX0_listen 8 = .ok (.aload_n 0, 1) := by decide +kernel
theorem dX0_listen_9 : decode cX0_listen 9 = .ok (.getfield 19, 3) := by decide +kernel
theorem dX0_listen_12 : decode cX0_listen 12 = .ok (.iload_n 2, 1) := by decide +kernel
theorem dX0_listen_13 : decode cX0_listen 13 = .ok (.aload_n 1, 1) := by decide +kernel
theorem dX0_listen_14 : decode cX0_listen 14 = .ok (.getfield 45, 3) := by decide +kernel
theorem dX0_listen_17 : decode cX0_listen 17 = .ok (.iload_n 2, 1) := by decide +kernel
theorem dX0_listen_18 : decode cX0_listen 18 = .ok (.invokevirtual 48, 3) := by decide +kernel
theorem dX0_listen_21 : decode cX0_listen 21 = .ok (.ifCond .eq 9, 3) := by decide +kernel
theorem dX0_listen_24 : decode cX0_listen 24 = .ok (.ldc2_w 79, 3) := by decide +kernel
theorem dX0_listen_27 : decode cX0_listen 27 = .ok (.goto 4, 3) := by decide +kernel
theorem dX0_listen_30 : decode cX0_listen 30 = .ok (.lconst 0, 1) := by decide +kernel
theorem dX0_listen_31 : decode cX0_listen 31 = .ok (.lastore, 1) := by decide +kernel
theorem dX0_listen_32 : decode cX0_listen 32 = .ok (.iinc 2 1, 3) := by decide +kernel
theorem dX0_listen_35 : decode cX0_listen 35 = .ok (.goto (-33), 3) := by decide +kernel
theorem dX0_listen_38 : decode cX0_listen 38 = .ok (.aload_n 1, 1) := by decide +kernel
theorem dX0_listen_39 : decode cX0_listen 39 = .ok (.getfield 81, 3) := by decide +kernel
theorem dX0_listen_42 : decode cX0_listen 42 = .ok (.astore_n 2, 1) := by decide +kernel
theorem dX0_listen_43 : decode cX0_listen 43 = .ok (.iconst 0, 1) := by decide +kernel
theorem dX0_listen_44 : decode cX0_listen 44 = .ok (.istore_n 3, 1) := by decide +kernel
theorem dX0_listen_45 : decode cX0_listen 45 = .ok (.iload_n 3, 1) := by decide +kernel
theorem dX0_listen_46 : decode cX0_listen 46 = .ok (.aload_n 2, 1) := by decide +kernel
theorem dX0_listen_47 : decode cX0_listen 47 = .ok (.getfield 35, 3) := by decide +kernel
theorem dX0_listen_50 : decode cX0_listen 50 = .ok (.if_icmp .ge 123, 3) := by decide +kernel
theorem dX0_listen_53 : decode cX0_listen 53 = .ok (.iload_n 3, 1) := by decide +kernel
theorem dX0_listen_54 : decode cX0_listen 54 = .ok (.bipush 12, 2) := by decide +kernel
theorem dX0_listen_56 : decode cX0_listen 56 = .ok (.if_icmp .gt 117, 3) := by decide +kernel
theorem dX0_listen_59 : decode cX0_listen 59 = .ok (.iconst 0, 1) := by decide +kernel
theorem dX0_listen_60 : decode cX0_listen 60 = .ok (.istore 4, 2) := by decide +kernel
theorem dX0_listen_62 : decode cX0_listen 62 = .ok (.iload 4, 2) := by decide +kernel
theorem dX0_listen_64 : decode cX0_listen 64 = .ok (.aload_n 1, 1) := by decide +kernel
theorem dX0_listen_65 : decode cX0_listen 65 = .ok (.getfield 45, 3) := by decide +kernel
theorem dX0_listen_68 : decode cX0_listen 68 = .ok (.getfield 35, 3) := by decide +kernel
theorem dX0_listen_71 : decode cX0_listen 71 = .ok (.if_icmp .ge 96, 3) := by decide +kernel
theorem dX0_listen_74 : decode cX0_listen 74 = .ok (.iload 4, 2) := by decide +kernel
theorem dX0_listen_76 : decode cX0_listen 76 = .ok (.bipush 6, 2) := by decide +kernel
theorem dX0_listen_78 : decode cX0_listen 78 = .ok (.if_icmp .ge 89, 3) := by decide +kernel
theorem dX0_listen_81 : decode cX0_listen 81 = .ok (.aload_n 0, 1) := by decide +kernel
theorem dX0_listen_82 : decode cX0_listen 82 = .ok (.aload_n 1, 1) := by decide +kernel
theorem dX0_listen_83 : decode cX0_listen 83 = .ok (.aload_n 2, 1) := by decide +kernel
theorem dX0_listen_84 : decode cX0_listen 84 = .ok (.iload_n 3, 1) := by decide +kernel
theorem dX0_listen_85 : decode cX0_listen 85 = .ok (.iconst 0, 1) := by decide +kernel
theorem dX0_listen_86 : decode cX0_listen 86 = .ok (.invokevirtual 41, 3) := by decide +kernel
theorem dX0_listen_89 : decode cX0_listen 89 = .ok (.aload_n 2, 1) := by decide +kernel
theorem dX0_listen_90 : decode cX0_listen 90 = .ok (.iload_n 3, 1) := by decide +kernel
theorem dX0_listen_91 : decode cX0_listen 91 = .ok (.iconst 2, 1) := by decide +kernel
theorem dX0_listen_92 : decode cX0_listen 92 = .ok (.invokevirtual 41, 3) := by decide +kernel
theorem dX0_listen_95 : decode cX0_listen 95 = .ok (.aload_n 2, 1) := by decide +kernel
theorem dX0_listen_96 : decode cX0_listen 96 = .ok (.iload_n 3, 1) := by decide +kernel
theorem dX0_listen_97 : decode cX0_listen 97 = .ok (.iconst 3, 1) := by decide +kernel
theorem dX0_listen_98 : decode cX0_listen 98 = .ok (.invokevirtual 41, 3) := by decide +kernel
theorem dX0_listen_101 : decode cX0_listen 101 = .ok (.aload_n 2, 1) := by decide +kernel
theorem dX0_listen_102 : decode cX0_listen 102 = .ok (.iload_n 3, 1) := by decide +kernel
theorem dX0_listen_103 : decode cX0_listen 103 = .ok (.iconst 4, 1) := by decide +kernel
theorem dX0_listen_104 : decode cX0_listen 104 = .ok (.invokevirtual 41, 3) := by decide +kernel
theorem dX0_listen_107 : decode cX0_listen 107 = .ok (.iload 4, 2) := by decide +kernel
theorem dX0_listen_109 : decode cX0_listen 109 = .ok (.invokevirtual 84, 3) := by decide +kernel
theorem dX0_listen_112 : decode cX0_listen 112 = .ok (.lstore 5, 2) := by decide +kernel
theorem dX0_listen_114 : decode cX0_listen 114 = .ok (.aload_n 2, 1) := by decide +kernel
theorem dX0_listen_115 : decode cX0_listen 115 = .ok (.iload_n 3, 1) := by decide +kernel
theorem dX0_listen_116 : decode cX0_listen 116 = .ok (.iconst 5, 1) := by decide +kernel
theorem dX0_listen_117 : decode cX0_listen 117 = .ok (.invokevirtual 41, 3) := by decide +kernel
theorem dX0_listen_120 : decode cX0_listen 120 = .ok (.ifCond .ne 8, 3) := by decide +kernel
theorem dX0_listen_123 : decode cX0_listen 123 = .ok (.lload 5, 2) := by decide +kernel
theorem dX0_listen_125 : decode cX0_listen 125 = .ok (.goto 4, 3) := by decide +kernel
theorem dX0_listen_128 : decode cX0_listen 128 = .ok (.lconst 0, 1) := by decide +kernel
theorem dX0_listen_129 : decode cX0_listen 129 = .ok (.lstore 5, 2) := by decide +kernel
theorem dX0_listen_131 : decode cX0_listen 131 = .ok (.aload_n 0, 1) := by decide +kernel
theorem dX0_listen_132 : decode cX0_listen 132 = .ok (.getfield 15, 3) := by decide +kernel
theorem dX0_listen_135 : decode cX0_listen 135 = .ok (.iload_n 3, 1) := by decide +kernel
theorem dX0_listen_136 : decode cX0_listen 136 = .ok (.bipush 6, 2) := by decide +kernel
theorem dX0_listen_138 : decode cX0_listen 138 = .ok (.imul, 1) := by decide +kernel
theorem dX0_listen_139 : decode cX0_listen 139 = .ok (.iload 4, 2) := by decide +kernel
theorem dX0_listen_141 : decode cX0_listen 141 = .ok (.iadd, 1) := by decide +kernel
theorem dX0_listen_142 : decode cX0_listen 142 = .ok (.lload 5, 2) := by decide +kernel
theorem dX0_listen_144 : decode cX0_listen 144 = .ok (.lastore, 1) := by decide +kernel
theorem dX0_listen_145 : decode cX0_listen 145 = .ok (.aload_n 0, 1) := by decide +kernel
theorem dX0_listen_146 : decode cX0_listen 146 = .ok (.getfield 19, 3) := by decide +kernel
theorem dX0_listen_149 : decode cX0_listen 149 = .ok (.iload 4, 2) := by decide +kernel
theorem dX0_listen_151 : decode cX0_listen 151 = .ok (.dup2, 1) := by decide +kernel
theorem dX0_listen_152 : decode cX0_listen 152 = .ok (.laload, 1) := by decide +kernel
theorem dX0_listen_153 : decode cX0_listen 153 = .ok (.lload 5, 2) := by decide +kernel
theorem dX0_listen_155 : decode cX0_listen 155 = .ok (.ldc2_w 88, 3) := by decide +kernel
theorem dX0_listen_158 : decode cX0_listen 158 = .ok (.lxor, 1) := by decide +kernel
theorem dX0_listen_159 : decode cX0_listen 159 = .ok (.land, 1) := by decide +kernel
theorem dX0_listen_160 : decode cX0_listen 160 = .ok (.lastore, 1) := by decide +kernel
theorem dX0_listen_161 : decode cX0_listen 161 = .ok (.iinc 4 1, 3) := by decide +kernel
theorem dX0_listen_164 : decode cX0_listen 164 = .ok (.goto (-102), 3) := by decide +kernel
theorem dX0_listen_167 : decode cX0_listen 167 = .ok (.iinc 3 1, 3) := by decide +kernel
theorem dX0_listen_170 : decode cX0_listen 170 = .ok (.goto (-125), 3) := by decide +kernel
theorem dX0_listen_173 : decode cX0_listen 173 = .ok (.return_, 1) := by decide +kernel
theorem dX0_settle_0 : decode cX0_settle 0 = .ok (.iconst 0, 1) := by decide +kernel
theorem dX0_settle_1 : decode cX0_settle 1 = .ok (.istore_n 2, 1) := by decide +kernel
theorem dX0_settle_2 : decode cX0_settle 2 = .ok (.iload_n 2, 1) := by decide +kernel
theorem dX0_settle_3 : decode cX0_settle 3 = .ok (.aload_n 0, 1) := by decide +kernel
theorem dX0_settle_4 : decode cX0_settle 4 = .ok (.getfield 22, 3) := by decide +kernel
theorem dX0_settle_7 : decode cX0_settle 7 = .ok (.arraylength, 1) := by decide +kernel
theorem dX0_settle_8 : decode cX0_settle 8 = .ok (.if_icmp .ge 16, 3) := by decide +kernel
theorem dX0_settle_11 : decode cX0_settle 11 = .ok (.aload_n 0, 1) := by decide +kernel
theorem dX0_settle_12 : decode cX0_settle 12 = .ok (.getfield 22, 3) := by decide +kernel
theorem dX0_settle_15 : decode cX0_settle 15 = .ok (.iload_n 2, 1) := by decide +kernel
theorem dX0_settle_16 : decode cX0_settle 16 = .ok (.iconst (-1), 1) := by decide +kernel
theorem dX0_settle_17 : decode cX0_settle 17 = .ok (.iastore, 1) := by decide +kernel
theorem dX0_settle_18 : decode cX0_settle 18 = .ok (.iinc 2 1, 3) := by decide +kernel
theorem dX0_settle_21 : decode cX0_settle 21 = .ok (.goto (-19), 3) := by decide +kernel
theorem dX0_settle_24 : decode cX0_settle 24 = .ok (.aload_n 1, 1) := by decide +kernel
theorem dX0_settle_25 : decode cX0_settle 25 = .ok (.getfield 90, 3) := by decide +kernel
theorem dX0_settle_28 : decode cX0_settle 28 = .ok (.getfield 35, 3) := by decide +kernel
theorem dX0_settle_31 : decode cX0_settle 31 = .ok (.iconst 1, 1) := by decide +kernel
theorem dX0_settle_32 : decode cX0_settle 32 = .ok (.isub, 1) := by decide +kernel
theorem dX0_settle_33 : decode cX0_settle 33 = .ok (.istore_n 2, 1) := by decide +kernel
theorem dX0_settle_34 : decode cX0_settle 34 = .ok (.iload_n 2, 1) := by decide +kernel
theorem dX0_settle_35 : decode cX0_settle 35 = .ok (.ifCond .lt 96, 3) := by decide +kernel
theorem dX0_settle_38 : decode cX0_settle 38 = .ok (.aload_n 1, 1) := by decide +kernel
theorem dX0_settle_39 : decode cX0_settle 39 = .ok (.getfield 90, 3) := by decide +kernel
theorem dX0_settle_42 : decode cX0_settle 42 = .ok (.iload_n 2, 1) := by decide +kernel
theorem dX0_settle_43 : decode cX0_settle 43 = .ok (.iconst 1, 1) := by decide +kernel
theorem dX0_settle_44 : decode cX0_settle 44 = .ok (.invokevirtual 41, 3) := by decide +kernel
theorem dX0_settle_47 : decode cX0_settle 47 = .ok (.bipush 48, 2) := by decide +kernel
theorem dX0_settle_49 : decode cX0_settle 49 = .ok (.imul, 1) := by decide +kernel
theorem dX0_settle_50 : decode cX0_settle 50 = .ok (.istore_n 3, 1) := by decide +kernel
theorem dX0_settle_51 : decode cX0_settle 51 = .ok (.aload_n 1, 1) := by decide +kernel
theorem dX0_settle_52 : decode cX0_settle 52 = .ok (.getfield 90, 3) := by decide +kernel
theorem dX0_settle_55 : decode cX0_settle 55 = .ok (.iload_n 2, 1) := by decide +kernel
theorem dX0_settle_56 : decode cX0_settle 56 = .ok (.iconst 3, 1) := by decide +kernel
theorem dX0_settle_57 : decode cX0_settle 57 = .ok (.invokevirtual 41, 3) := by decide +kernel
theorem dX0_settle_60 : decode cX0_settle 60 = .ok (.istore 4, 2) := by decide +kernel
theorem dX0_settle_62 : decode cX0_settle 62 = .ok (.aload_n 1, 1) := by decide +kernel
theorem dX0_settle_63 : decode cX0_settle 63 = .ok (.getfield 90, 3) := by decide +kernel
theorem dX0_settle_66 : decode cX0_settle 66 = .ok (.iload_n 2, 1) := by decide +kernel
theorem dX0_settle_67 : decode cX0_settle 67 = .ok (.iconst 2, 1) := by decide +kernel
theorem dX0_settle_68 : decode cX0_settle 68 = .ok (.invokevirtual 41, 3) := by decide +kernel
theorem dX0_settle_71 : decode cX0_settle 71 = .ok (.istore 5, 2) := by decide +kernel
theorem dX0_settle_73 : decode cX0_settle 73 = .ok (.iload 5, 2) := by decide +kernel
theorem dX0_settle_75 : decode cX0_settle 75 = .ok (.iload 4, 2) := by decide +kernel
theorem dX0_settle_77 : decode cX0_settle 77 = .ok (.if_icmp .gt 48, 3) := by decide +kernel
theorem dX0_settle_80 : decode cX0_settle 80 = .ok (.iload 5, 2) := by decide +kernel
theorem dX0_settle_82 : decode cX0_settle 82 = .ok (.invokestatic 93, 3) := by decide +kernel
theorem dX0_settle_85 : decode cX0_settle 85 = .ok (.ifCond .eq 34, 3) := by decide +kernel
theorem dX0_settle_88 : decode cX0_settle 88 = .ok (.iload_n 3, 1) := by decide +kernel
theorem dX0_settle_89 : decode cX0_settle 89 = .ok (.ifCond .lt 30, 3) := by decide +kernel
theorem dX0_settle_92 : decode cX0_settle 92 = .ok (.iload_n 3, 1) := by decide +kernel
theorem dX0_settle_93 : decode cX0_settle 93 = .ok (.aload_n 0, 1) := by decide +kernel
theorem dX0_settle_94 : decode cX0_settle 94 = .ok (.getfield 22, 3) := by decide +kernel
theorem dX0_settle_97 : decode cX0_settle 97 = .ok (.arraylength, 1) := by decide +kernel
theorem dX0_settle_98 : decode cX0_settle 98 = .ok (.if_icmp .ge 21, 3) := by decide +kernel
theorem dX0_settle_101 : decode cX0_settle 101 = .ok (.aload_n 0, 1) := by decide +kernel
theorem dX0_settle_102 : decode cX0_settle 102 = .ok (.getfield 22, 3) := by decide +kernel
theorem dX0_settle_105 : decode cX0_settle 105 = .ok (.iload_n 3, 1) := by decide +kernel
theorem dX0_settle_106 : decode cX0_settle 106 = .ok (.iload 5, 2) := by decide +kernel
theorem dX0_settle_108 : decode cX0_settle 108 = .ok (.iadd, 1) := by decide +kernel
theorem dX0_settle_109 : decode cX0_settle 109 = .ok (.aload_n 1, 1) := by decide +kernel
theorem dX0_settle_110 : decode cX0_settle 110 = .ok (.getfield 90, 3) := by decide +kernel
theorem dX0_settle_113 : decode cX0_settle 113 = .ok (.iload_n 2, 1) := by decide +kernel
theorem dX0_settle_114 : decode cX0_settle 114 = .ok (.iconst 0, 1) := by decide +kernel
theorem dX0_settle_115 : decode cX0_settle 115 = .ok (.invokevirtual 41, 3) := by decide +kernel
theorem dX0_settle_118 : decode cX0_settle 118 = .ok (.iastore, 1) := by decide +kernel
theorem dX0_settle_119 : decode cX0_settle 119 = .ok (.iinc 5 1, 3) := by decide +kernel
theorem dX0_settle_122 : decode cX0_settle 122 = .ok (.goto (-49), 3) := by decide +kernel
theorem dX0_settle_125 : decode cX0_settle 125 = .ok (.iinc 2 (-1), 3) := by decide +kernel
theorem dX0_settle_128 : decode cX0_settle 128 = .ok (.goto (-94), 3) := by decide +kernel
theorem dX0_settle_131 : decode cX0_settle 131 = .ok (.iconst 0, 1) := by decide +kernel
theorem dX0_settle_132 : decode cX0_settle 132 = .ok (.istore_n 2, 1) := by decide +kernel
theorem dX0_settle_133 : decode cX0_settle 133 = .ok (.iload_n 2, 1) := by decide +kernel
theorem dX0_settle_134 : decode cX0_settle 134 = .ok (.aload_n 1, 1) := by decide +kernel
theorem dX0_settle_135 : decode cX0_settle 135 = .ok (.getfield 45, 3) := by decide +kernel
theorem dX0_settle_138 : decode cX0_settle 138 = .ok (.getfield 35, 3) := by decide +kernel
theorem dX0_settle_141 : decode cX0_settle 141 = .ok (.if_icmp .ge 21, 3) := by decide +kernel
theorem dX0_settle_144 : decode cX0_settle 144 = .ok (.iload_n 2, 1) := by decide +kernel
theorem dX0_settle_145 : decode cX0_settle 145 = .ok (.bipush 6, 2) := by decide +kernel
theorem dX0_settle_147 : decode cX0_settle 147 = .ok (.if_icmp .ge 15, 3) := by decide +kernel
theorem dX0_settle_150 : decode cX0_settle 150 = .ok (.aload_n 0, 1) := by decide +kernel
theorem dX0_settle_151 : decode cX0_settle 151 = .ok (.aload_n 1, 1) := by decide +kernel
theorem dX0_settle_152 : decode cX0_settle 152 = .ok (.iload_n 2, 1) := by decide +kernel
theorem dX0_settle_153 : decode cX0_settle 153 = .ok (.invokevirtual 96, 3) := by decide +kernel
theorem dX0_settle_156 : decode cX0_settle 156 = .ok (.iinc 2 1, 3) := by decide +kernel
theorem dX0_settle_159 : decode cX0_settle 159 = .ok (.goto (-26), 3) := by decide +kernel
theorem dX0_settle_162 : decode cX0_settle 162 = .ok (.return_, 1) := by decide +kernel
theorem dX0_settlePlace_0 : decode cX0_settlePlace 0 = .ok (.bipush (-2), 2) := by decide +kernel
theorem dX0_settlePlace_2 : decode cX0_settlePlace 2 = .ok (.istore_n 3, 1) := by decide +kernel
theorem dX0_settlePlace_3 : decode cX0_settlePlace 3 = .ok (.iconst 0, 1) := by decide +kernel
theorem dX0_settlePlace_4 : decode cX0_settlePlace 4 = .ok (.istore 4, 2) := by decide +kernel
theorem dX0_settlePlace_6 : decode cX0_settlePlace 6 = .ok (.iload 4, 2) := by decide +kernel
theorem dX0_settlePlace_8 : decode cX0_settlePlace 8 = .ok (.bipush 48, 2) := by decide +kernel
theorem dX0_settlePlace_10 : decode cX0_settlePlace 10 = .ok (.if_icmp .ge 86, 3) := by decide +kernel
theorem dX0_settlePlace_13 : decode cX0_settlePlace 13 = .ok (.iload_n 2, 1) := by decide +kernel
theorem dX0_settlePlace_14 : decode cX0_settlePlace 14 = .ok (.bipush 48, 2) := by decide +kernel
theorem dX0_settlePlace_16 : decode cX0_settlePlace 16 = .ok (.imul, 1) := by decide +kernel
theorem dX0_settlePlace_17 : decode cX0_settlePlace 17 = .ok (.iload 4, 2) := by decide +kernel
theorem dX0_settlePlace_19 : decode cX0_settlePlace 19 = .ok (.iadd, 1) := by decide +kernel
theorem dX0_settlePlace_20 : decode cX0_settlePlace 20 = .ok (.istore 5, 2) := by decide +kernel
theorem dX0_settlePlace_22 : decode cX0_settlePlace 22 = .ok (.aload_n 0, 1) := by decide +kernel
theorem dX0_settlePlace_23 : decode cX0_settlePlace 23 = .ok (.iload_n 2, 1) := by decide +kernel
theorem dX0_settlePlace_24 : decode cX0_settlePlace 24 = .ok (.iload 4, 2) := by decide +kernel
theorem dX0_settlePlace_26 : decode cX0_settlePlace 26 = .ok (.invokevirtual 100, 3) := by decide +kernel
theorem dX0_settlePlace_29 : decode cX0_settlePlace 29 = .ok (.ifCond .ne 32, 3) := by decide +kernel
theorem dX0_settlePlace_32 : decode cX0_settlePlace 32 = .ok (.aload_n 1, 1) := by decide +kernel
theorem dX0_settlePlace_33 : decode cX0_settlePlace 33 = .ok (.getfield 81, 3) := by decide +kernel
theorem dX0_settlePlace_36 : decode cX0_settlePlace 36 = .ok (.aload_n 0, 1) := by decide +kernel
theorem dX0_settlePlace_37 : decode cX0_settlePlace 37 = .ok (.aload_n 1, 1) := by decide +kernel
theorem dX0_settlePlace_38 : decode cX0_settlePlace 38 = .ok (.iload_n 2, 1) := by decide +kernel
theorem dX0_settlePlace_39 : decode cX0_settlePlace 39 = .ok (.iload 4, 2) := by decide +kernel
theorem dX0_settlePlace_41 : decode cX0_settlePlace 41 = .ok (.invokevirtual 104, 3) := by decide +kernel
theorem dX0_settlePlace_44 : decode cX0_settlePlace 44 = .ok (.iconst 1, 1) := by decide +kernel
theorem dX0_settlePlace_45 : decode cX0_settlePlace 45 = .ok (.invokevirtual 41, 3) := by decide +kernel
theorem dX0_settlePlace_48 : decode cX0_settlePlace 48 = .ok (.istore_n 3, 1) := by decide +kernel
theorem dX0_settlePlace_49 : decode cX0_settlePlace 49 = .ok (.aload_n 0, 1) := by decide +kernel
theorem dX0_settlePlace_50 : decode cX0_settlePlace 50 = .ok (.getfield 25, 3) := by decide +kernel
theorem dX0_settlePlace_53 : decode cX0_settlePlace 53 = .ok (.iload 5, 2) := by decide +kernel
theorem dX0_settlePlace_55 : decode cX0_settlePlace 55 = .ok (.bipush (-3), 2) := by decide +kernel
theorem dX0_settlePlace_57 : decode cX0_settlePlace 57 = .ok (.iastore, 1) := by decide +kernel
theorem dX0_settlePlace_58 : decode cX0_settlePlace 58 = .ok (.goto 32, 3) := by decide +kernel
theorem dX0_settlePlace_61 : decode cX0_settlePlace 61 = .ok (.aload_n 0, 1) := by decide +kernel
theorem dX0_settlePlace_62 : decode cX0_settlePlace 62 = .ok (.getfield 25, 3) := by decide +kernel
theorem dX0_settlePlace_65 : decode cX0_settlePlace 65 = .ok (.iload 5, 2) := by decide +kernel
theorem dX0_settlePlace_67 : decode cX0_settlePlace 67 = .ok (.aload_n 0, 1) := by decide +kernel
theorem dX0_settlePlace_68 : decode cX0_settlePlace 68 = .ok (.getfield 22, 3) := by decide +kernel
theorem dX0_settlePlace_71 : decode cX0_settlePlace 71 = .ok (.iload 5, 2) := by decide +kernel
theorem dX0_settlePlace_73 : decode cX0_settlePlace 73 = .ok (.iaload, 1) := by decide +kernel
theorem dX0_settlePlace_74 : decode cX0_settlePlace 74 = .ok (.iconst (-1), 1) := by decide +kernel
theorem dX0_settlePlace_75 : decode cX0_settlePlace 75 = .ok (.if_icmp .ne 7, 3) := by decide +kernel
theorem dX0_settlePlace_78 : decode cX0_settlePlace 78 = .ok (.iload_n 3, 1) := by decide +kernel
theorem dX0_settlePlace_79 : decode cX0_settlePlace 79 = .ok (.goto 10, 3) := by decide +kernel
theorem dX0_settlePlace_82 : decode cX0_settlePlace 82 = .ok (.aload_n 0, 1) := by decide +kernel
theorem dX0_settlePlace_83 : decode cX0_settlePlace 83 = .ok (.getfield 22, 3) := by decide +kernel
theorem dX0_settlePlace_86 : decode cX0_settlePlace 86 = .ok (.iload 5, 2) := by decide +kernel
theorem dX0_settlePlace_88 : decode cX0_settlePlace 88 = .ok (.iaload, 1) := by decide +kernel
theorem dX0_settlePlace_89 : decode cX0_settlePlace 89 = .ok (.iastore, 1) := by decide +kernel
theorem dX0_settlePlace_90 : decode cX0_settlePlace 90 = .ok (.iinc 4 1, 3) := by decide +kernel
theorem dX0_settlePlace_93 : decode cX0_settlePlace 93 = .ok (.goto (-87), 3) := by decide +kernel
theorem dX0_settlePlace_96 : decode cX0_settlePlace 96 = .ok (.return_, 1) := by decide +kernel
theorem dX0_isSpot_0 : decode cX0_isSpot 0 = .ok (.iload_n 0, 1) := by decide +kernel
theorem dX0_isSpot_1 : decode cX0_isSpot 1 = .ok (.ifCond .lt 23, 3) := by decide +kernel
theorem dX0_isSpot_4 : decode cX0_isSpot 4 = .ok (.iload_n 0, 1) := by decide +kernel
theorem dX0_isSpot_5 : decode cX0_isSpot 5 = .ok (.bipush 6, 2) := by decide +kernel
theorem dX0_isSpot_7 : decode cX0_isSpot 7 = .ok (.if_icmp .ge 17, 3) := by decide +kernel
theorem dX0_isSpot_10 : decode cX0_isSpot 10 = .ok (.iload_n 1, 1) := by decide +kernel
theorem dX0_isSpot_11 : decode cX0_isSpot 11 = .ok (.ifCond .lt 13, 3) := by decide +kernel
theorem dX0_isSpot_14 : decode cX0_isSpot 14 = .ok (.iload_n 1, 1) := by decide +kernel
theorem dX0_isSpot_15 : decode cX0_isSpot 15 = .ok (.bipush 48, 2) := by decide +kernel
theorem dX0_isSpot_17 : decode cX0_isSpot 17 = .ok (.if_icmp .ge 7, 3) := by decide +kernel
theorem dX0_isSpot_20 : decode cX0_isSpot 20 = .ok (.iconst 1, 1) := by decide +kernel
theorem dX0_isSpot_21 : decode cX0_isSpot 21 = .ok (.goto 4, 3) := by decide +kernel
theorem dX0_isSpot_24 : decode cX0_isSpot 24 = .ok (.iconst 0, 1) := by decide +kernel
theorem dX0_isSpot_25 : decode cX0_isSpot 25 = .ok (.ireturn, 1) := by decide +kernel
theorem dX0_silentAt_0 : decode cX0_silentAt 0 = .ok (.iload_n 1, 1) := by decide +kernel
theorem dX0_silentAt_1 : decode cX0_silentAt 1 = .ok (.ifCond .lt 18, 3) := by decide +kernel
theorem dX0_silentAt_4 : decode cX0_silentAt 4 = .ok (.iload_n 1, 1) := by decide +kernel
theorem dX0_silentAt_5 : decode cX0_silentAt 5 = .ok (.bipush 6, 2) := by decide +kernel
theorem dX0_silentAt_7 : decode cX0_silentAt 7 = .ok (.if_icmp .ge 12, 3) := by decide +kernel
theorem dX0_silentAt_10 : decode cX0_silentAt 10 = .ok (.aload_n 0, 1) := by decide +kernel
theorem dX0_silentAt_11 : decode cX0_silentAt 11 = .ok (.getfield 19, 3) := by decide +kernel
theorem dX0_silentAt_14 : decode cX0_silentAt 14 = .ok (.iload_n 1, 1) := by decide +kernel
theorem dX0_silentAt_15 : decode cX0_silentAt 15 = .ok (.laload, 1) := by decide +kernel
theorem dX0_silentAt_16 : decode cX0_silentAt 16 = .ok (.goto 4, 3) := by decide +kernel
theorem dX0_silentAt_19 : decode cX0_silentAt 19 = .ok (.lconst 0, 1) := by decide +kernel
theorem dX0_silentAt_20 : decode cX0_silentAt 20 = .ok (.lreturn, 1) := by decide +kernel
theorem dX0_isSilent_0 : decode cX0_isSilent 0 = .ok (.aload_n 0, 1) := by decide +kernel
theorem dX0_isSilent_1 : decode cX0_isSilent 1 = .ok (.iload_n 1, 1) := by decide +kernel
theorem dX0_isSilent_2 : decode cX0_isSilent 2 = .ok (.invokevirtual 108, 3) := by decide +kernel
theorem dX0_isSilent_5 : decode cX0_isSilent 5 = .ok (.iload_n 2, 1) := by decide +kernel
theorem dX0_isSilent_6 : decode cX0_isSilent 6 = .ok (.lshr, 1) := by decide +kernel
theorem dX0_isSilent_7 : decode cX0_isSilent 7 = .ok (.lconst 1, 1) := by decide +kernel
theorem dX0_isSilent_8 : decode cX0_isSilent 8 = .ok (.land, 1) := by decide +kernel
theorem dX0_isSilent_9 : decode cX0_isSilent 9 = .ok (.lconst 1, 1) := by decide +kernel
theorem dX0_isSilent_10 : decode cX0_isSilent 10 = .ok (.lcmp, 1) := by decide +kernel
theorem dX0_isSilent_11 : decode cX0_isSilent 11 = .ok (.ifCond .ne 7, 3) := by decide +kernel
theorem dX0_isSilent_14 : decode cX0_isSilent 14 = .ok (.iconst 1, 1) := by decide +kernel
theorem dX0_isSilent_15 : decode cX0_isSilent 15 = .ok (.goto 4, 3) := by decide +kernel
theorem dX0_isSilent_18 : decode cX0_isSilent 18 = .ok (.iconst 0, 1) := by decide +kernel
theorem dX0_isSilent_19 : decode cX0_isSilent 19 = .ok (.ireturn, 1) := by decide +kernel
theorem dX0_silentMinutes_0 : decode cX0_silentMinutes 0 = .ok (.iconst 0, 1) := by decide +kernel
theorem dX0_silentMinutes_1 : decode cX0_silentMinutes 1 = .ok (.istore_n 1, 1) := by decide +kernel
theorem dX0_silentMinutes_2 : decode cX0_silentMinutes 2 = .ok (.iconst 0, 1) := by decide +kernel
theorem dX0_silentMinutes_3 : decode cX0_silentMinutes 3 = .ok (.istore_n 2, 1) := by decide +kernel
theorem dX0_silentMinutes_4 : decode cX0_silentMinutes 4 = .ok (.iload_n 2, 1) := by decide +kernel
theorem dX0_silentMinutes_5 : decode cX0_silentMinutes 5 = .ok (.bipush 6, 2) := by decide +kernel
theorem dX0_silentMinutes_7 : decode cX0_silentMinutes 7 = .ok (.if_icmp .ge 21, 3) := by decide +kernel
theorem dX0_silentMinutes_10 : decode cX0_silentMinutes 10 = .ok (.iload_n 1, 1) := by decide +kernel
theorem dX0_silentMinutes_11 : decode cX0_silentMinutes 11 = .ok (.aload_n 0, 1) := by decide +kernel
theorem dX0_silentMinutes_12 : decode cX0_silentMinutes 12 = .ok (.getfield 19, 3) := by decide +kernel
theorem dX0_silentMinutes_15 : decode cX0_silentMinutes 15 = .ok (.iload_n 2, 1) := by decide +kernel
theorem dX0_silentMinutes_16 : decode cX0_silentMinutes 16 = .ok (.laload, 1) := by decide +kernel
theorem dX0_silentMinutes_17 : decode cX0_silentMinutes 17 = .ok (.invokestatic 112, 3) := by decide +kernel
theorem dX0_silentMinutes_20 : decode cX0_silentMinutes 20 = .ok (.iadd, 1) := by decide +kernel
theorem dX0_silentMinutes_21 : decode cX0_silentMinutes 21 = .ok (.istore_n 1, 1) := by decide +kernel
theorem dX0_silentMinutes_22 : decode cX0_silentMinutes 22 = .ok (.iinc 2 1, 3) := by decide +kernel
theorem dX0_silentMinutes_25 : decode cX0_silentMinutes 25 = .ok (.goto (-21), 3) := by decide +kernel
theorem dX0_silentMinutes_28 : decode cX0_silentMinutes 28 = .ok (.iload_n 1, 1) := by decide +kernel
theorem dX0_silentMinutes_29 : decode cX0_silentMinutes 29 = .ok (.ireturn, 1) := by decide +kernel
theorem dX0_isHeard_0 : decode cX0_isHeard 0 = .ok (.iload_n 1, 1) := by decide +kernel
theorem dX0_isHeard_1 : decode cX0_isHeard 1 = .ok (.ifCond .lt 29, 3) := by decide +kernel
theorem dX0_isHeard_4 : decode cX0_isHeard 4 = .ok (.iload_n 1, 1) := by decide +kernel
theorem dX0_isHeard_5 : decode cX0_isHeard 5 = .ok (.bipush 12, 2) := by decide +kernel
theorem dX0_isHeard_7 : decode cX0_isHeard 7 = .ok (.if_icmp .gt 23, 3) := by decide +kernel
theorem dX0_isHeard_10 : decode cX0_isHeard 10 = .ok (.iload_n 2, 1) := by decide +kernel
theorem dX0_isHeard_11 : decode cX0_isHeard 11 = .ok (.ifCond .lt 19, 3) := by decide +kernel
theorem dX0_isHeard_14 : decode cX0_isHeard 14 = .ok (.iload_n 2, 1) := by decide +kernel
theorem dX0_isHeard_15 : decode cX0_isHeard 15 = .ok (.bipush 6, 2) := by decide +kernel
theorem dX0_isHeard_17 : decode cX0_isHeard 17 = .ok (.if_icmp .ge 13, 3) := by decide +kernel
theorem dX0_isHeard_20 : decode cX0_isHeard 20 = .ok (.iload_n 3, 1) := by decide +kernel
theorem dX0_isHeard_21 : decode cX0_isHeard 21 = .ok (.ifCond .lt 9, 3) := by decide +kernel
theorem dX0_isHeard_24 : decode cX0_isHeard 24 = .ok (.iload_n 3, 1) := by decide +kernel
theorem dX0_isHeard_25 : decode cX0_isHeard 25 = .ok (.bipush 48, 2) := by decide +kernel
theorem dX0_isHeard_27 : decode cX0_isHeard 27 = .ok (.if_icmp .lt 5, 3) := by decide +kernel
theorem dX0_isHeard_30 : decode cX0_isHeard 30 = .ok (.iconst 0, 1) := by decide +kernel
theorem dX0_isHeard_31 : decode cX0_isHeard 31 = .ok (.ireturn, 1) := by decide +kernel
theorem dX0_isHeard_32 : decode cX0_isHeard 32 = .ok (.aload_n 0, 1) := by decide +kernel
theorem dX0_isHeard_33 : decode cX0_isHeard 33 = .ok (.getfield 15, 3) := by decide +kernel
theorem dX0_isHeard_36 : decode cX0_isHeard 36 = .ok (.iload_n 1, 1) := by decide +kernel
theorem dX0_isHeard_37 : decode cX0_isHeard 37 = .ok (.bipush 6, 2) := by decide +kernel
theorem dX0_isHeard_39 : decode cX0_isHeard 39 = .ok (.imul, 1) := by decide +kernel
theorem dX0_isHeard_40 : decode cX0_isHeard 40 = .ok (.iload_n 2, 1) := by decide +kernel
theorem dX0_isHeard_41 : decode cX0_isHeard 41 = .ok (.iadd, 1) := by decide +kernel
theorem dX0_isHeard_42 : decode cX0_isHeard 42 = .ok (.laload, 1) := by decide +kernel
theorem dX0_isHeard_43 : decode cX0_isHeard 43 = .ok (.iload_n 3, 1) := by decide +kernel
theorem dX0_isHeard_44 : decode cX0_isHeard 44 = .ok (.lshr, 1) := by decide +kernel
theorem dX0_isHeard_45 : decode cX0_isHeard 45 = .ok (.lconst 1, 1) := by decide +kernel
theorem dX0_isHeard_46 : decode cX0_isHeard 46 = .ok (.land, 1) := by decide +kernel
theorem dX0_isHeard_47 : decode cX0_isHeard 47 = .ok (.lconst 1, 1) := by decide +kernel
theorem dX0_isHeard_48 : decode cX0_isHeard 48 = .ok (.lcmp, 1) := by decide +kernel
theorem dX0_isHeard_49 : decode cX0_isHeard 49 = .ok (.ifCond .ne 7, 3) := by decide +kernel
theorem dX0_isHeard_52 : decode cX0_isHeard 52 = .ok (.iconst 1, 1) := by decide +kernel
theorem dX0_isHeard_53 : decode cX0_isHeard 53 = .ok (.goto 4, 3) := by decide +kernel
theorem dX0_isHeard_56 : decode cX0_isHeard 56 = .ok (.iconst 0, 1) := by decide +kernel
theorem dX0_isHeard_57 : decode cX0_isHeard 57 = .ok (.ireturn, 1) := by decide +kernel
theorem dX0_firstHeard_0 : decode cX0_firstHeard 0 = .ok (.iconst 0, 1) := by decide +kernel
theorem dX0_firstHeard_1 : decode cX0_firstHeard 1 = .ok (.istore 4, 2) := by decide +kernel
theorem dX0_firstHeard_3 : decode cX0_firstHeard 3 = .ok (.iload 4, 2) := by decide +kernel
theorem dX0_firstHeard_5 : decode cX0_firstHeard 5 = .ok (.aload_n 1, 1) := by decide +kernel
theorem dX0_firstHeard_6 : decode cX0_firstHeard 6 = .ok (.getfield 81, 3) := by decide +kernel
theorem dX0_firstHeard_9 : decode cX0_firstHeard 9 = .ok (.getfield 35, 3) := by decide +kernel
theorem dX0_firstHeard_12 : decode cX0_firstHeard 12 = .ok (.if_icmp .ge 23, 3) := by decide +kernel
theorem dX0_firstHeard_15 : decode cX0_firstHeard 15 = .ok (.aload_n 0, 1) := by decide +kernel
theorem dX0_firstHeard_16 : decode cX0_firstHeard 16 = .ok (.iload 4, 2) := by decide +kernel
theorem dX0_firstHeard_18 : decode cX0_firstHeard 18 = .ok (.iload_n 2, 1) := by decide +kernel
theorem dX0_firstHeard_19 : decode cX0_firstHeard 19 = .ok (.iload_n 3, 1) := by decide +kernel
theorem dX0_firstHeard_20 : decode cX0_firstHeard 20 = .ok (.invokevirtual 118, 3) := by decide +kernel
theorem dX0_firstHeard_23 : decode cX0_firstHeard 23 = .ok (.ifCond .eq 6, 3) := by decide +kernel
theorem dX0_firstHeard_26 : decode cX0_firstHeard 26 = .ok (.iload 4, 2) := by decide +kernel
theorem dX0_firstHeard_28 : decode cX0_firstHeard 28 = .ok (.ireturn, 1) := by decide +kernel
theorem dX0_firstHeard_29 : decode cX0_firstHeard 29 = .ok (.iinc 4 1, 3) := by decide +kernel
theorem dX0_firstHeard_32 : decode cX0_firstHeard 32 = .ok (.goto (-29), 3) := by decide +kernel
theorem dX0_firstHeard_35 : decode cX0_firstHeard 35 = .ok (.iconst (-1), 1) := by decide +kernel
theorem dX0_firstHeard_36 : decode cX0_firstHeard 36 = .ok (.ireturn, 1) := by decide +kernel
theorem dX0_holder_0 : decode cX0_holder 0 = .ok (.iload_n 1, 1) := by decide +kernel
theorem dX0_holder_1 : decode cX0_holder 1 = .ok (.iload_n 2, 1) := by decide +kernel
theorem dX0_holder_2 : decode cX0_holder 2 = .ok (.invokestatic 122, 3) := by decide +kernel
theorem dX0_holder_5 : decode cX0_holder 5 = .ok (.ifCond .eq 17, 3) := by decide +kernel
theorem dX0_holder_8 : decode cX0_holder 8 = .ok (.aload_n 0, 1) := by decide +kernel
theorem dX0_holder_9 : decode cX0_holder 9 = .ok (.getfield 25, 3) := by decide +kernel
theorem dX0_holder_12 : decode cX0_holder 12 = .ok (.iload_n 1, 1) := by decide +kernel
theorem dX0_holder_13 : decode cX0_holder 13 = .ok (.bipush 48, 2) := by decide +kernel
theorem dX0_holder_15 : decode cX0_holder 15 = .ok (.imul, 1) := by decide +kernel
theorem dX0_holder_16 : decode cX0_holder 16 = .ok (.iload_n 2, 1) := by decide +kernel
theorem dX0_holder_17 : decode cX0_holder 17 = .ok (.iadd, 1) := by decide +kernel
theorem dX0_holder_18 : decode cX0_holder 18 = .ok (.iaload, 1) := by decide +kernel
theorem dX0_holder_19 : decode cX0_holder 19 = .ok (.goto 4, 3) := by decide +kernel
theorem dX0_holder_22 : decode cX0_holder 22 = .ok (.iconst (-1), 1) := by decide +kernel
theorem dX0_holder_23 : decode cX0_holder 23 = .ok (.ireturn, 1) := by decide +kernel
theorem dX0_minutesOf_0 : decode cX0_minutesOf 0 = .ok (.iconst 0, 1) := by decide +kernel
theorem dX0_minutesOf_1 : decode cX0_minutesOf 1 = .ok (.istore_n 2, 1) := by decide +kernel
theorem dX0_minutesOf_2 : decode cX0_minutesOf 2 = .ok (.iconst 0, 1) := by decide +kernel
theorem dX0_minutesOf_3 : decode cX0_minutesOf 3 = .ok (.istore_n 3, 1) := by decide +kernel
theorem dX0_minutesOf_4 : decode cX0_minutesOf 4 = .ok (.iload_n 3, 1) := by decide +kernel
theorem dX0_minutesOf_5 : decode cX0_minutesOf 5 = .ok (.bipush 6, 2) := by decide +kernel
theorem dX0_minutesOf_7 : decode cX0_minutesOf 7 = .ok (.if_icmp .ge 49, 3) := by decide +kernel
theorem dX0_minutesOf_10 : decode cX0_minutesOf 10 = .ok (.iconst 0, 1) := by decide +kernel
theorem dX0_minutesOf_11 : decode cX0_minutesOf 11 = .ok (.istore 4, 2) := by decide +kernel
theorem dX0_minutesOf_13 : decode cX0_minutesOf 13 = .ok (.iload 4, 2) := by decide +kernel
theorem dX0_minutesOf_15 : decode cX0_minutesOf 15 = .ok (.bipush 48, 2) := by decide +kernel
theorem dX0_minutesOf_17 : decode cX0_minutesOf 17 = .ok (.if_icmp .ge 33, 3) := by decide +kernel
theorem dX0_minutesOf_20 : decode cX0_minutesOf 20 = .ok (.aload_n 0, 1) := by decide +kernel
theorem dX0_minutesOf_21 : decode cX0_minutesOf 21 = .ok (.iload_n 3, 1) := by decide +kernel
theorem dX0_minutesOf_22 : decode cX0_minutesOf 22 = .ok (.iload 4, 2) := by decide +kernel
theorem dX0_minutesOf_24 : decode cX0_minutesOf 24 = .ok (.invokevirtual 100, 3) := by decide +kernel
theorem dX0_minutesOf_27 : decode cX0_minutesOf 27 = .ok (.ifCond .eq 17, 3) := by decide +kernel
theorem dX0_minutesOf_30 : decode cX0_minutesOf 30 = .ok (.aload_n 0, 1) := by decide +kernel
theorem dX0_minutesOf_31 : decode cX0_minutesOf 31 = .ok (.iload_n 3, 1) := by decide +kernel
theorem dX0_minutesOf_32 : decode cX0_minutesOf 32 = .ok (.iload 4, 2) := by decide +kernel
theorem dX0_minutesOf_34 : decode cX0_minutesOf 34 = .ok (.invokevirtual 125, 3) := by decide +kernel
theorem dX0_minutesOf_37 : decode cX0_minutesOf 37 = .ok (.iload_n 1, 1) := by decide +kernel
theorem dX0_minutesOf_38 : decode cX0_minutesOf 38 = .ok (.if_icmp .ne 6, 3) := by decide +kernel
theorem dX0_minutesOf_41 : decode cX0_minutesOf 41 = .ok (.iinc 2 1, 3) := by decide +kernel
theorem dX0_minutesOf_44 : decode cX0_minutesOf 44 = .ok (.iinc 4 1, 3) := by decide +kernel
theorem dX0_minutesOf_47 : decode cX0_minutesOf 47 = .ok (.goto (-34), 3) := by decide +kernel
theorem dX0_minutesOf_50 : decode cX0_minutesOf 50 = .ok (.iinc 3 1, 3) := by decide +kernel
theorem dX0_minutesOf_53 : decode cX0_minutesOf 53 = .ok (.goto (-49), 3) := by decide +kernel
theorem dX0_minutesOf_56 : decode cX0_minutesOf 56 = .ok (.iload_n 2, 1) := by decide +kernel
theorem dX0_minutesOf_57 : decode cX0_minutesOf 57 = .ok (.ireturn, 1) := by decide +kernel
theorem dX0_isForbidden_0 : decode cX0_isForbidden 0 = .ok (.iload_n 3, 1) := by decide +kernel
theorem dX0_isForbidden_1 : decode cX0_isForbidden 1 = .ok (.iload 4, 2) := by decide +kernel
theorem dX0_isForbidden_3 : decode cX0_isForbidden 3 = .ok (.invokestatic 122, 3) := by decide +kernel
theorem dX0_isForbidden_6 : decode cX0_isForbidden 6 = .ok (.ifCond .ne 5, 3) := by decide +kernel
theorem dX0_isForbidden_9 : decode cX0_isForbidden 9 = .ok (.iconst 0, 1) := by decide +kernel
theorem dX0_isForbidden_10 : decode cX0_isForbidden 10 = .ok (.ireturn, 1) := by decide +kernel
theorem dX0_isForbidden_11 : decode cX0_isForbidden 11 = .ok (.aload_n 0, 1) := by decide +kernel
theorem dX0_isForbidden_12 : decode cX0_isForbidden 12 = .ok (.getfield 22, 3) := by decide +kernel
theorem dX0_isForbidden_15 : decode cX0_isForbidden 15 = .ok (.iload_n 3, 1) := by decide +kernel
theorem dX0_isForbidden_16 : decode cX0_isForbidden 16 = .ok (.bipush 48, 2) := by decide +kernel
theorem dX0_isForbidden_18 : decode cX0_isForbidden 18 = .ok (.imul, 1) := by decide +kernel
theorem dX0_isForbidden_19 : decode cX0_isForbidden 19 = .ok (.iload 4, 2) := by decide +kernel
theorem dX0_isForbidden_21 : decode cX0_isForbidden 21 = .ok (.iadd, 1) := by decide +kernel
theorem dX0_isForbidden_22 : decode cX0_isForbidden 22 = .ok (.iaload, 1) := by decide +kernel
theorem dX0_isForbidden_23 : decode cX0_isForbidden 23 = .ok (.istore 5, 2) := by decide +kernel
theorem dX0_isForbidden_25 : decode cX0_isForbidden 25 = .ok (.iload 5, 2) := by decide +kernel
theorem dX0_isForbidden_27 : decode cX0_isForbidden 27 = .ok (.iconst (-1), 1) := by decide +kernel
theorem dX0_isForbidden_28 : decode cX0_isForbidden 28 = .ok (.if_icmp .eq 24, 3) := by decide +kernel
theorem dX0_isForbidden_31 : decode cX0_isForbidden 31 = .ok (.iload 5, 2) := by decide +kernel
theorem dX0_isForbidden_33 : decode cX0_isForbidden 33 = .ok (.iload_n 2, 1) := by decide +kernel
theorem dX0_isForbidden_34 : decode cX0_isForbidden 34 = .ok (.if_icmp .eq 18, 3) := by decide +kernel
theorem dX0_isForbidden_37 : decode cX0_isForbidden 37 = .ok (.aload_n 1, 1) := by decide +kernel
theorem dX0_isForbidden_38 : decode cX0_isForbidden 38 = .ok (.iload_n 2, 1) := by decide +kernel
theorem dX0_isForbidden_39 : decode cX0_isForbidden 39 = .ok (.iload_n 3, 1) := by decide +kernel
theorem dX0_isForbidden_40 : decode cX0_isForbidden 40 = .ok (.iload 4, 2) := by decide +kernel
theorem dX0_isForbidden_42 : decode cX0_isForbidden 42 = .ok (.invokevirtual 128, 3) := by decide +kernel
theorem dX0_isForbidden_45 : decode cX0_isForbidden 45 = .ok (.ifCond .ne 7, 3) := by decide +kernel
theorem dX0_isForbidden_48 : decode cX0_isForbidden 48 = .ok (.iconst 1, 1) := by decide +kernel
theorem dX0_isForbidden_49 : decode cX0_isForbidden 49 = .ok (.goto 4, 3) := by decide +kernel
theorem dX0_isForbidden_52 : decode cX0_isForbidden 52 = .ok (.iconst 0, 1) := by decide +kernel
theorem dX0_isForbidden_53 : decode cX0_isForbidden 53 = .ok (.ireturn, 1) := by decide +kernel
theorem dX0_isTrespass_0 : decode cX0_isTrespass 0 = .ok (.aload_n 0, 1) := by decide +kernel
theorem dX0_isTrespass_1 : decode cX0_isTrespass 1 = .ok (.iload_n 2, 1) := by decide +kernel
theorem dX0_isTrespass_2 : decode cX0_isTrespass 2 = .ok (.iload_n 3, 1) := by decide +kernel
theorem dX0_isTrespass_3 : decode cX0_isTrespass 3 = .ok (.iload 4, 2) := by decide +kernel
theorem dX0_isTrespass_5 : decode cX0_isTrespass 5 = .ok (.invokevirtual 118, 3) := by decide +kernel
theorem dX0_isTrespass_8 : decode cX0_isTrespass 8 = .ok (.ifCond .eq 27, 3) := by decide +kernel
theorem dX0_isTrespass_11 : decode cX0_isTrespass 11 = .ok (.aload_n 0, 1) := by decide +kernel
theorem dX0_isTrespass_12 : decode cX0_isTrespass 12 = .ok (.aload_n 1, 1) := by decide +kernel
theorem dX0_isTrespass_13 : decode cX0_isTrespass 13 = .ok (.aload_n 1, 1) := by decide +kernel
theorem dX0_isTrespass_14 : decode cX0_isTrespass 14 = .ok (.getfield 81, 3) := by decide +kernel
theorem dX0_isTrespass_17 : decode cX0_isTrespass 17 = .ok (.iload_n 2, 1) := by decide +kernel
theorem dX0_isTrespass_18 : decode cX0_isTrespass 18 = .ok (.iconst 1, 1) := by decide +kernel
theorem dX0_isTrespass_19 : decode cX0_isTrespass 19 = .ok (.invokevirtual 41, 3) := by decide +kernel
theorem dX0_isTrespass_22 : decode cX0_isTrespass 22 = .ok (.iload_n 3, 1) := by decide +kernel
theorem dX0_isTrespass_23 : decode cX0_isTrespass 23 = .ok (.iload 4, 2) := by decide +kernel
theorem dX0_isTrespass_25 : decode cX0_isTrespass 25 = .ok (.invokevirtual 131, 3) := by decide +kernel
theorem dX0_isTrespass_28 : decode cX0_isTrespass 28 = .ok (.ifCond .eq 7, 3) := by decide +kernel
theorem dX0_isTrespass_31 : decode cX0_isTrespass 31 = .ok (.iconst 1, 1) := by decide +kernel
theorem dX0_isTrespass_32 : decode cX0_isTrespass 32 = .ok (.goto 4, 3) := by decide +kernel
theorem dX0_isTrespass_35 : decode cX0_isTrespass 35 = .ok (.iconst 0, 1) := by decide +kernel
theorem dX0_isTrespass_36 : decode cX0_isTrespass 36 = .ok (.ireturn, 1) := by decide +kernel
theorem dX0_trespasses_0 : decode cX0_trespasses 0 = .ok (.iconst 0, 1) := by decide +kernel
theorem dX0_trespasses_1 : decode cX0_trespasses 1 = .ok (.istore 4, 2) := by decide +kernel
theorem dX0_trespasses_3 : decode cX0_trespasses 3 = .ok (.iconst 0, 1) := by decide +kernel
theorem dX0_trespasses_4 : decode cX0_trespasses 4 = .ok (.istore 5, 2) := by decide +kernel
theorem dX0_trespasses_6 : decode cX0_trespasses 6 = .ok (.iload 5, 2) := by decide +kernel
theorem dX0_trespasses_8 : decode cX0_trespasses 8 = .ok (.aload_n 1, 1) := by decide +kernel
theorem dX0_trespasses_9 : decode cX0_trespasses 9 = .ok (.getfield 45, 3) := by decide +kernel
theorem dX0_trespasses_12 : decode cX0_trespasses 12 = .ok (.getfield 35, 3) := by decide +kernel
theorem dX0_trespasses_15 : decode cX0_trespasses 15 = .ok (.bipush 48, 2) := by decide +kernel
theorem dX0_trespasses_17 : decode cX0_trespasses 17 = .ok (.imul, 1) := by decide +kernel
theorem dX0_trespasses_18 : decode cX0_trespasses 18 = .ok (.if_icmp .ge 113, 3) := by decide +kernel
theorem dX0_trespasses_21 : decode cX0_trespasses 21 = .ok (.iload 5, 2) := by decide +kernel
theorem dX0_trespasses_23 : decode cX0_trespasses 23 = .ok (.aload_n 0, 1) := by decide +kernel
theorem dX0_trespasses_24 : decode cX0_trespasses 24 = .ok (.getfield 22, 3) := by decide +kernel
theorem dX0_trespasses_27 : decode cX0_trespasses 27 = .ok (.arraylength, 1) := by decide +kernel
theorem dX0_trespasses_28 : decode cX0_trespasses 28 = .ok (.if_icmp .ge 103, 3) := by decide +kernel
theorem dX0_trespasses_31 : decode cX0_trespasses 31 = .ok (.iload_n 3, 1) := by decide +kernel
theorem dX0_trespasses_32 : decode cX0_trespasses 32 = .ok (.iconst (-1), 1) := by decide +kernel
theorem dX0_trespasses_33 : decode cX0_trespasses 33 = .ok (.if_icmp .eq 17, 3) := by decide +kernel
theorem dX0_trespasses_36 : decode cX0_trespasses 36 = .ok (.aload_n 0, 1) := by decide +kernel
theorem dX0_trespasses_37 : decode cX0_trespasses 37 = .ok (.getfield 22, 3) := by decide +kernel
theorem dX0_trespasses_40 : decode cX0_trespasses 40 = .ok (.iload 5, 2) := by decide +kernel
theorem dX0_trespasses_42 : decode cX0_trespasses 42 = .ok (.iaload, 1) := by decide +kernel
theorem dX0_trespasses_43 : decode cX0_trespasses 43 = .ok (.iload_n 3, 1) := by decide +kernel
theorem dX0_trespasses_44 : decode cX0_trespasses 44 = .ok (.if_icmp .eq 6, 3) := by decide +kernel
theorem dX0_trespasses_47 : decode cX0_trespasses 47 = .ok (.goto 78, 3) := by decide +kernel
theorem dX0_trespasses_50 : decode cX0_trespasses 50 = .ok (.iconst 0, 1) := by decide +kernel
theorem dX0_trespasses_51 : decode cX0_trespasses 51 = .ok (.istore 6, 2) := by decide +kernel
theorem dX0_trespasses_53 : decode cX0_trespasses 53 = .ok (.iload 6, 2) := by decide +kernel
theorem dX0_trespasses_55 : decode cX0_trespasses 55 = .ok (.aload_n 1, 1) := by decide +kernel
theorem dX0_trespasses_56 : decode cX0_trespasses 56 = .ok (.getfield 81, 3) := by decide +kernel
theorem dX0_trespasses_59 : decode cX0_trespasses 59 = .ok (.getfield 35, 3) := by decide +kernel
theorem dX0_trespasses_62 : decode cX0_trespasses 62 = .ok (.if_icmp .ge 63, 3) := by decide +kernel
theorem dX0_trespasses_65 : decode cX0_trespasses 65 = .ok (.iload_n 2, 1) := by decide +kernel
theorem dX0_trespasses_66 : decode cX0_trespasses 66 = .ok (.iconst (-1), 1) := by decide +kernel
theorem dX0_trespasses_67 : decode cX0_trespasses 67 = .ok (.if_icmp .eq 17, 3) := by decide +kernel
theorem dX0_trespasses_70 : decode cX0_trespasses 70 = .ok (.aload_n 1, 1) := by decide +kernel
theorem dX0_trespasses_71 : decode cX0_trespasses 71 = .ok (.getfield 81, 3) := by decide +kernel
theorem dX0_trespasses_74 : decode cX0_trespasses 74 = .ok (.iload 6, 2) := by decide +kernel
theorem dX0_trespasses_76 : decode cX0_trespasses 76 = .ok (.iconst 1, 1) := by decide +kernel
theorem dX0_trespasses_77 : decode cX0_trespasses 77 = .ok (.invokevirtual 41, 3) := by decide +kernel
theorem dX0_trespasses_80 : decode cX0_trespasses 80 = .ok (.iload_n 2, 1) := by decide +kernel
theorem dX0_trespasses_81 : decode cX0_trespasses 81 = .ok (.if_icmp .ne 7, 3) := by decide +kernel
theorem dX0_trespasses_84 : decode cX0_trespasses 84 = .ok (.iconst 1, 1) := by decide +kernel
theorem dX0_trespasses_85 : decode cX0_trespasses 85 = .ok (.goto 4, 3) := by decide +kernel
theorem dX0_trespasses_88 : decode cX0_trespasses 88 = .ok (.iconst 0, 1) := by decide +kernel
theorem dX0_trespasses_89 : decode cX0_trespasses 89 = .ok (.istore 7, 2) := by decide +kernel
theorem dX0_trespasses_91 : decode cX0_trespasses 91 = .ok (.iload 7, 2) := by decide +kernel
theorem dX0_trespasses_93 : decode cX0_trespasses 93 = .ok (.ifCond .eq 26, 3) := by decide +kernel
theorem dX0_trespasses_96 : decode cX0_trespasses 96 = .ok (.aload_n 0, 1) := by decide +kernel
theorem dX0_trespasses_97 : decode cX0_trespasses 97 = .ok (.aload_n 1, 1) := by decide +kernel
theorem dX0_trespasses_98 : decode cX0_trespasses 98 = .ok (.iload 6, 2) := by decide +kernel
theorem dX0_trespasses_100 : decode cX0_trespasses 100 = .ok (.iload 5, 2) := by decide +kernel
theorem dX0_trespasses_102 : decode cX0_trespasses 102 = .ok (.bipush 48, 2) := by decide +kernel
theorem dX0_trespasses_104 : decode cX0_trespasses 104 = .ok (.idiv, 1) := by decide +kernel
theorem dX0_trespasses_105 : decode cX0_trespasses 105 = .ok (.iload 5, 2) := by decide +kernel
theorem dX0_trespasses_107 : decode cX0_trespasses 107 = .ok (.bipush 48, 2) := by decide +kernel
theorem dX0_trespasses_109 : decode cX0_trespasses 109 = .ok (.irem, 1) := by decide +kernel
theorem dX0_trespasses_110 : decode cX0_trespasses 110 = .ok (.invokevirtual 135, 3) := by decide +kernel
theorem dX0_trespasses_113 : decode cX0_trespasses 113 = .ok (.ifCond .eq 6, 3) := by decide +kernel
theorem dX0_trespasses_116 : decode cX0_trespasses 116 = .ok (.iinc 4 1, 3) := by decide +kernel
theorem dX0_trespasses_119 : decode cX0_trespasses 119 = .ok (.iinc 6 1, 3) := by decide +kernel
theorem dX0_trespasses_122 : decode cX0_trespasses 122 = .ok (.goto (-69), 3) := by decide +kernel
theorem dX0_trespasses_125 : decode cX0_trespasses 125 = .ok (.iinc 5 1, 3) := by decide +kernel
theorem dX0_trespasses_128 : decode cX0_trespasses 128 = .ok (.goto (-122), 3) := by decide +kernel
theorem dX0_trespasses_131 : decode cX0_trespasses 131 = .ok (.iload 4, 2) := by decide +kernel
theorem dX0_trespasses_133 : decode cX0_trespasses 133 = .ok (.ireturn, 1) := by decide +kernel
theorem dX0_fineMinute_0 : decode cX0_fineMinute 0 = .ok (.iconst 0, 1) := by decide +kernel
theorem dX0_fineMinute_1 : decode cX0_fineMinute 1 = .ok (.istore_n 3, 1) := by decide +kernel
theorem dX0_fineMinute_2 : decode cX0_fineMinute 2 = .ok (.iload_n 3, 1) := by decide +kernel
theorem dX0_fineMinute_3 : decode cX0_fineMinute 3 = .ok (.aload_n 1, 1) := by decide +kernel
theorem dX0_fineMinute_4 : decode cX0_fineMinute 4 = .ok (.getfield 45, 3) := by decide +kernel
theorem dX0_fineMinute_7 : decode cX0_fineMinute 7 = .ok (.getfield 35, 3) := by decide +kernel
theorem dX0_fineMinute_10 : decode cX0_fineMinute 10 = .ok (.if_icmp .ge 92, 3) := by decide +kernel
theorem dX0_fineMinute_13 : decode cX0_fineMinute 13 = .ok (.iconst 0, 1) := by decide +kernel
theorem dX0_fineMinute_14 : decode cX0_fineMinute 14 = .ok (.istore 4, 2) := by decide +kernel
theorem dX0_fineMinute_16 : decode cX0_fineMinute 16 = .ok (.iload 4, 2) := by decide +kernel
theorem dX0_fineMinute_18 : decode cX0_fineMinute 18 = .ok (.aload_n 1, 1) := by decide +kernel
theorem dX0_fineMinute_19 : decode cX0_fineMinute 19 = .ok (.getfield 81, 3) := by decide +kernel
theorem dX0_fineMinute_22 : decode cX0_fineMinute 22 = .ok (.getfield 35, 3) := by decide +kernel
theorem dX0_fineMinute_25 : decode cX0_fineMinute 25 = .ok (.if_icmp .ge 71, 3) := by decide +kernel
theorem dX0_fineMinute_28 : decode cX0_fineMinute 28 = .ok (.aload_n 0, 1) := by decide +kernel
theorem dX0_fineMinute_29 : decode cX0_fineMinute 29 = .ok (.aload_n 1, 1) := by decide +kernel
theorem dX0_fineMinute_30 : decode cX0_fineMinute 30 = .ok (.iload 4, 2) := by decide +kernel
theorem dX0_fineMinute_32 : decode cX0_fineMinute 32 = .ok (.iload_n 3, 1) := by decide +kernel
theorem dX0_fineMinute_33 : decode cX0_fineMinute 33 = .ok (.iload_n 2, 1) := by decide +kernel
theorem dX0_fineMinute_34 : decode cX0_fineMinute 34 = .ok (.invokevirtual 135, 3) := by decide +kernel
theorem dX0_fineMinute_37 : decode cX0_fineMinute 37 = .ok (.ifCond .eq 53, 3) := by decide +kernel
theorem dX0_fineMinute_40 : decode cX0_fineMinute 40 = .ok (.aload_n 1, 1) := by decide +kernel
theorem dX0_fineMinute_41 : decode cX0_fineMinute 41 = .ok (.getfield 81, 3) := by decide +kernel
theorem dX0_fineMinute_44 : decode cX0_fineMinute 44 = .ok (.iload 4, 2) := by decide +kernel
theorem dX0_fineMinute_46 : decode cX0_fineMinute 46 = .ok (.iconst 1, 1) := by decide +kernel
theorem dX0_fineMinute_47 : decode cX0_fineMinute 47 = .ok (.invokevirtual 41, 3) := by decide +kernel
theorem dX0_fineMinute_50 : decode cX0_fineMinute 50 = .ok (.istore 5, 2) := by decide +kernel
theorem dX0_fineMinute_52 : decode cX0_fineMinute 52 = .ok (.aload_n 1, 1) := by decide +kernel
theorem dX0_fineMinute_53 : decode cX0_fineMinute 53 = .ok (.getfield 138, 3) := by decide +kernel
theorem dX0_fineMinute_56 : decode cX0_fineMinute 56 = .ok (.aload_n 1, 1) := by decide +kernel
theorem dX0_fineMinute_57 : decode cX0_fineMinute 57 = .ok (.getfield 141, 3) := by decide +kernel
theorem dX0_fineMinute_60 : decode cX0_fineMinute 60 = .ok (.iload 5, 2) := by decide +kernel
theorem dX0_fineMinute_62 : decode cX0_fineMinute 62 = .ok (.iconst 1, 1) := by decide +kernel
theorem dX0_fineMinute_63 : decode cX0_fineMinute 63 = .ok (.invokevirtual 41, 3) := by decide +kernel
theorem dX0_fineMinute_66 : decode cX0_fineMinute 66 = .ok (.invokestatic 55, 3) := by decide +kernel
theorem dX0_fineMinute_69 : decode cX0_fineMinute 69 = .ok (.istore 6, 2) := by decide +kernel
theorem dX0_fineMinute_71 : decode cX0_fineMinute 71 = .ok (.aload_n 1, 1) := by decide +kernel
theorem dX0_fineMinute_72 : decode cX0_fineMinute 72 = .ok (.iload 5, 2) := by decide +kernel
theorem dX0_fineMinute_74 : decode cX0_fineMinute 74 = .ok (.aload_n 0, 1) := by decide +kernel
theorem dX0_fineMinute_75 : decode cX0_fineMinute 75 = .ok (.getfield 22, 3) := by decide +kernel
theorem dX0_fineMinute_78 : decode cX0_fineMinute 78 = .ok (.iload_n 3, 1) := by decide +kernel
theorem dX0_fineMinute_79 : decode cX0_fineMinute 79 = .ok (.bipush 48, 2) := by decide +kernel
theorem dX0_fineMinute_81 : decode cX0_fineMinute 81 = .ok (.imul, 1) := by decide +kernel
theorem dX0_fineMinute_82 : decode cX0_fineMinute 82 = .ok (.iload_n 2, 1) := by decide +kernel
theorem dX0_fineMinute_83 : decode cX0_fineMinute 83 = .ok (.iadd, 1) := by decide +kernel
theorem dX0_fineMinute_84 : decode cX0_fineMinute 84 = .ok (.iaload, 1) := by decide +kernel
theorem dX0_fineMinute_85 : decode cX0_fineMinute 85 = .ok (.iload 6, 2) := by decide +kernel
theorem dX0_fineMinute_87 : decode cX0_fineMinute 87 = .ok (.invokevirtual 144, 3) := by decide +kernel
theorem dX0_fineMinute_90 : decode cX0_fineMinute 90 = .ok (.iinc 4 1, 3) := by decide +kernel
theorem dX0_fineMinute_93 : decode cX0_fineMinute 93 = .ok (.goto (-77), 3) := by decide +kernel
theorem dX0_fineMinute_96 : decode cX0_fineMinute 96 = .ok (.iinc 3 1, 3) := by decide +kernel
theorem dX0_fineMinute_99 : decode cX0_fineMinute 99 = .ok (.goto (-97), 3) := by decide +kernel
theorem dX0_fineMinute_102 : decode cX0_fineMinute 102 = .ok (.return_, 1) := by decide +kernel
theorem dX0_longestHeld_0 : decode cX0_longestHeld 0 = .ok (.iconst 0, 1) := by decide +kernel
theorem dX0_longestHeld_1 : decode cX0_longestHeld 1 = .ok (.istore_n 2, 1) := by decide +kernel
theorem dX0_longestHeld_2 : decode cX0_longestHeld 2 = .ok (.iconst 0, 1) := by decide +kernel
theorem dX0_longestHeld_3 : decode cX0_longestHeld 3 = .ok (.istore_n 3, 1) := by decide +kernel
theorem dX0_longestHeld_4 : decode cX0_longestHeld 4 = .ok (.iload_n 3, 1) := by decide +kernel
theorem dX0_longestHeld_5 : decode cX0_longestHeld 5 = .ok (.aload_n 1, 1) := by decide +kernel
theorem dX0_longestHeld_6 : decode cX0_longestHeld 6 = .ok (.getfield 45, 3) := by decide +kernel
theorem dX0_longestHeld_9 : decode cX0_longestHeld 9 = .ok (.getfield 35, 3) := by decide +kernel
theorem dX0_longestHeld_12 : decode cX0_longestHeld 12 = .ok (.if_icmp .ge 78, 3) := by decide +kernel
theorem dX0_longestHeld_15 : decode cX0_longestHeld 15 = .ok (.iconst 0, 1) := by decide +kernel
theorem dX0_longestHeld_16 : decode cX0_longestHeld 16 = .ok (.istore 4, 2) := by decide +kernel
theorem dX0_longestHeld_18 : decode cX0_longestHeld 18 = .ok (.bipush (-2), 2) := by decide +kernel
theorem dX0_longestHeld_20 : decode cX0_longestHeld 20 = .ok (.istore 5, 2) := by decide +kernel
theorem dX0_longestHeld_22 : decode cX0_longestHeld 22 = .ok (.iconst 0, 1) := by decide +kernel
theorem dX0_longestHeld_23 : decode cX0_longestHeld 23 = .ok (.istore 6, 2) := by decide +kernel
theorem dX0_longestHeld_25 : decode cX0_longestHeld 25 = .ok (.iload 6, 2) := by decide +kernel
theorem dX0_longestHeld_27 : decode cX0_longestHeld 27 = .ok (.bipush 48, 2) := by decide +kernel
theorem dX0_longestHeld_29 : decode cX0_longestHeld 29 = .ok (.if_icmp .ge 55, 3) := by decide +kernel
theorem dX0_longestHeld_32 : decode cX0_longestHeld 32 = .ok (.aload_n 0, 1) := by decide +kernel
theorem dX0_longestHeld_33 : decode cX0_longestHeld 33 = .ok (.iload_n 3, 1) := by decide +kernel
theorem dX0_longestHeld_34 : decode cX0_longestHeld 34 = .ok (.iload 6, 2) := by decide +kernel
theorem dX0_longestHeld_36 : decode cX0_longestHeld 36 = .ok (.invokevirtual 125, 3) := by decide +kernel
theorem dX0_longestHeld_39 : decode cX0_longestHeld 39 = .ok (.istore 7, 2) := by decide +kernel
theorem dX0_longestHeld_41 : decode cX0_longestHeld 41 = .ok (.iload 7, 2) := by decide +kernel
theorem dX0_longestHeld_43 : decode cX0_longestHeld 43 = .ok (.ifCond .ge 7, 3) := by decide +kernel
theorem dX0_longestHeld_46 : decode cX0_longestHeld 46 = .ok (.iconst 0, 1) := by decide +kernel
theorem dX0_longestHeld_47 : decode cX0_longestHeld 47 = .ok (.goto 18, 3) := by decide +kernel
theorem dX0_longestHeld_50 : decode cX0_longestHeld 50 = .ok (.iload 7, 2) := by decide +kernel
theorem dX0_longestHeld_52 : decode cX0_longestHeld 52 = .ok (.iload 5, 2) := by decide +kernel
theorem dX0_longestHeld_54 : decode cX0_longestHeld 54 = .ok (.if_icmp .ne 10, 3) := by decide +kernel
theorem dX0_longestHeld_57 : decode cX0_longestHeld 57 = .ok (.iload 4, 2) := by decide +kernel
theorem dX0_longestHeld_59 : decode cX0_longestHeld 59 = .ok (.iconst 1, 1) := by decide +kernel
theorem dX0_longestHeld_60 : decode cX0_longestHeld 60 = .ok (.iadd, 1) := by decide +kernel
theorem dX0_longestHeld_61 : decode cX0_longestHeld 61 = .ok (.goto 4, 3) := by decide +kernel
theorem dX0_longestHeld_64 : decode cX0_longestHeld 64 = .ok (.iconst 1, 1) := by decide +kernel
theorem dX0_longestHeld_65 : decode cX0_longestHeld 65 = .ok (.istore 4, 2) := by decide +kernel
theorem dX0_longestHeld_67 : decode cX0_longestHeld 67 = .ok (.iload 7, 2) := by decide +kernel
theorem dX0_longestHeld_69 : decode cX0_longestHeld 69 = .ok (.istore 5, 2) := by decide +kernel
theorem dX0_longestHeld_71 : decode cX0_longestHeld 71 = .ok (.iload_n 2, 1) := by decide +kernel
theorem dX0_longestHeld_72 : decode cX0_longestHeld 72 = .ok (.iload 4, 2) := by decide +kernel
theorem dX0_longestHeld_74 : decode cX0_longestHeld 74 = .ok (.invokestatic 148, 3) := by decide +kernel
theorem dX0_longestHeld_77 : decode cX0_longestHeld 77 = .ok (.istore_n 2, 1) := by decide +kernel
theorem dX0_longestHeld_78 : decode cX0_longestHeld 78 = .ok (.iinc 6 1, 3) := by decide +kernel
theorem dX0_longestHeld_81 : decode cX0_longestHeld 81 = .ok (.goto (-56), 3) := by decide +kernel
theorem dX0_longestHeld_84 : decode cX0_longestHeld 84 = .ok (.iinc 3 1, 3) := by decide +kernel
theorem dX0_longestHeld_87 : decode cX0_longestHeld 87 = .ok (.goto (-83), 3) := by decide +kernel
theorem dX0_longestHeld_90 : decode cX0_longestHeld 90 = .ok (.iload_n 2, 1) := by decide +kernel
theorem dX0_longestHeld_91 : decode cX0_longestHeld 91 = .ok (.ireturn, 1) := by decide +kernel
theorem dX1_init_0 : decode cX1_init 0 = .ok (.aload_n 0, 1) := by decide +kernel
theorem dX1_init_1 : decode cX1_init 1 = .ok (.invokespecial 5, 3) := by decide +kernel
theorem dX1_init_4 : decode cX1_init 4 = .ok (.aload_n 0, 1) := by decide +kernel
theorem dX1_init_5 : decode cX1_init 5 = .ok (.bipush 64, 2) := by decide +kernel
theorem dX1_init_7 : decode cX1_init 7 = .ok (.newarray .int, 2) := by decide +kernel
theorem dX1_init_9 : decode cX1_init 9 = .ok (.putfield 11, 3) := by decide +kernel
theorem dX1_init_12 : decode cX1_init 12 = .ok (.aload_n 0, 1) := by decide +kernel
theorem dX1_init_13 : decode cX1_init 13 = .ok (.bipush 64, 2) := by decide +kernel
theorem dX1_init_15 : decode cX1_init 15 = .ok (.newarray .long, 2) := by decide +kernel
theorem dX1_init_17 : decode cX1_init 17 = .ok (.putfield 17, 3) := by decide +kernel
theorem dX1_init_20 : decode cX1_init 20 = .ok (.aload_n 0, 1) := by decide +kernel
theorem dX1_init_21 : decode cX1_init 21 = .ok (.bipush 6, 2) := by decide +kernel
theorem dX1_init_23 : decode cX1_init 23 = .ok (.newarray .long, 2) := by decide +kernel
theorem dX1_init_25 : decode cX1_init 25 = .ok (.putfield 21, 3) := by decide +kernel
theorem dX1_init_28 : decode cX1_init 28 = .ok (.return_, 1) := by decide +kernel
theorem dX1_clear_0 : decode cX1_clear 0 = .ok (.aload_n 0, 1) := by decide +kernel
theorem dX1_clear_1 : decode cX1_clear 1 = .ok (.iconst 0, 1) := by decide +kernel
theorem dX1_clear_2 : decode cX1_clear 2 = .ok (.putfield 24, 3) := by decide +kernel
theorem dX1_clear_5 : decode cX1_clear 5 = .ok (.aload_n 0, 1) := by decide +kernel
theorem dX1_clear_6 : decode cX1_clear 6 = .ok (.iconst 0, 1) := by decide +kernel
theorem dX1_clear_7 : decode cX1_clear 7 = .ok (.putfield 28, 3) := by decide +kernel
theorem dX1_clear_10 : decode cX1_clear 10 = .ok (.return_, 1) := by decide +kernel
theorem dX1_copyFrom_0 : decode cX1_copyFrom 0 = .ok (.aload_n 1, 1) := by decide +kernel
theorem dX1_copyFrom_1 : decode cX1_copyFrom 1 = .ok (.getfield 11, 3) := by decide +kernel
theorem dX1_copyFrom_4 : decode cX1_copyFrom 4 = .ok (.iconst 0, 1) := by decide +kernel
theorem dX1_copyFrom_5 : decode cX1_copyFrom 5 = .ok (.aload_n 0, 1) := by decide +kernel
theorem dX1_copyFrom_6 : decode cX1_copyFrom 6 = .ok (.getfield 11, 3) := by decide +kernel
theorem dX1_copyFrom_9 : decode cX1_copyFrom 9 = .ok (.iconst 0, 1) := by decide +kernel
theorem dX1_copyFrom_10 : decode cX1_copyFrom 10 = .ok (.bipush 64, 2) := by decide +kernel
theorem dX1_copyFrom_12 : decode cX1_copyFrom 12 = .ok (.invokestatic 32, 3) := by decide +kernel
theorem dX1_copyFrom_15 : decode cX1_copyFrom 15 = .ok (.aload_n 0, 1) := by decide +kernel
theorem dX1_copyFrom_16 : decode cX1_copyFrom 16 = .ok (.aload_n 1, 1) := by decide +kernel
theorem dX1_copyFrom_17 : decode cX1_copyFrom 17 = .ok (.getfield 24, 3) := by decide +kernel
theorem dX1_copyFrom_20 : decode cX1_copyFrom 20 = .ok (.putfield 24, 3) := by decide +kernel
theorem dX1_copyFrom_23 : decode cX1_copyFrom 23 = .ok (.aload_n 0, 1) := by decide +kernel
theorem dX1_copyFrom_24 : decode cX1_copyFrom 24 = .ok (.aload_n 1, 1) := by decide +kernel
theorem dX1_copyFrom_25 : decode cX1_copyFrom 25 = .ok (.getfield 28, 3) := by decide +kernel
theorem dX1_copyFrom_28 : decode cX1_copyFrom 28 = .ok (.putfield 28, 3) := by decide +kernel
theorem dX1_copyFrom_31 : decode cX1_copyFrom 31 = .ok (.return_, 1) := by decide +kernel
theorem dX1_add_0 : decode cX1_add 0 = .ok (.aload_n 0, 1) := by decide +kernel
theorem dX1_add_1 : decode cX1_add 1 = .ok (.aload_n 0, 1) := by decide +kernel
theorem dX1_add_2 : decode cX1_add 2 = .ok (.getfield 28, 3) := by decide +kernel
theorem dX1_add_5 : decode cX1_add 5 = .ok (.ifCond .ne 9, 3) := by decide +kernel
theorem dX1_add_8 : decode cX1_add 8 = .ok (.iload_n 1, 1) := by decide +kernel
theorem dX1_add_9 : decode cX1_add 9 = .ok (.bipush (-3), 2) := by decide +kernel
theorem dX1_add_11 : decode cX1_add 11 = .ok (.if_icmp .ne 7, 3) := by decide +kernel
theorem dX1_add_14 : decode cX1_add 14 = .ok (.iconst 1, 1) := by decide +kernel
theorem dX1_add_15 : decode cX1_add 15 = .ok (.goto 4, 3) := by decide +kernel
theorem dX1_add_18 : decode cX1_add 18 = .ok (.iconst 0, 1) := by decide +kernel
theorem dX1_add_19 : decode cX1_add 19 = .ok (.putfield 28, 3) := by decide +kernel
theorem dX1_add_22 : decode cX1_add 22 = .ok (.aload_n 0, 1) := by decide +kernel
theorem dX1_add_23 : decode cX1_add 23 = .ok (.getfield 24, 3) := by decide +kernel
theorem dX1_add_26 : decode cX1_add 26 = .ok (.bipush 64, 2) := by decide +kernel
theorem dX1_add_28 : decode cX1_add 28 = .ok (.if_icmp .ge 23, 3) := by decide +kernel
theorem dX1_add_31 : decode cX1_add 31 = .ok (.aload_n 0, 1) := by decide +kernel
theorem dX1_add_32 : decode cX1_add 32 = .ok (.getfield 11, 3) := by decide +kernel
theorem dX1_add_35 : decode cX1_add 35 = .ok (.aload_n 0, 1) := by decide +kernel
theorem dX1_add_36 : decode cX1_add 36 = .ok (.getfield 24, 3) := by decide +kernel
theorem dX1_add_39 : decode cX1_add 39 = .ok (.iload_n 1, 1) := by decide +kernel
theorem dX1_add_40 : decode cX1_add 40 = .ok (.iastore, 1) := by decide +kernel
theorem dX1_add_41 : decode cX1_add 41 = .ok (.aload_n 0, 1) := by decide +kernel
theorem dX1_add_42 : decode cX1_add 42 = .ok (.dup, 1) := by decide +kernel
theorem dX1_add_43 : decode cX1_add 43 = .ok (.getfield 24, 3) := by decide +kernel
theorem dX1_add_46 : decode cX1_add 46 = .ok (.iconst 1, 1) := by decide +kernel
theorem dX1_add_47 : decode cX1_add 47 = .ok (.iadd, 1) := by decide +kernel
theorem dX1_add_48 : decode cX1_add 48 = .ok (.putfield 24, 3) := by decide +kernel
theorem dX1_add_51 : decode cX1_add 51 = .ok (.return_, 1) := by decide +kernel
theorem dX1_value_0 : decode cX1_value 0 = .ok (.aload_n 0, 1) := by decide +kernel
theorem dX1_value_1 : decode cX1_value 1 = .ok (.getfield 21, 3) := by decide +kernel
theorem dX1_value_4 : decode cX1_value 4 = .ok (.iconst 0, 1) := by decide +kernel
theorem dX1_value_5 : decode cX1_value 5 = .ok (.iload_n 1, 1) := by decide +kernel
theorem dX1_value_6 : decode cX1_value 6 = .ok (.i2l, 1) := by decide +kernel
theorem dX1_value_7 : decode cX1_value 7 = .ok (.lastore, 1) := by decide +kernel
theorem dX1_value_8 : decode cX1_value 8 = .ok (.aload_n 0, 1) := by decide +kernel
theorem dX1_value_9 : decode cX1_value 9 = .ok (.getfield 21, 3) := by decide +kernel
theorem dX1_value_12 : decode cX1_value 12 = .ok (.iconst 1, 1) := by decide +kernel
theorem dX1_value_13 : decode cX1_value 13 = .ok (.iload_n 2, 1) := by decide +kernel
theorem dX1_value_14 : decode cX1_value 14 = .ok (.i2l, 1) := by decide +kernel
theorem dX1_value_15 : decode cX1_value 15 = .ok (.lastore, 1) := by decide +kernel
theorem dX1_value_16 : decode cX1_value 16 = .ok (.aload_n 0, 1) := by decide +kernel
theorem dX1_value_17 : decode cX1_value 17 = .ok (.getfield 21, 3) := by decide +kernel
theorem dX1_value_20 : decode cX1_value 20 = .ok (.iconst 2, 1) := by decide +kernel
theorem dX1_value_21 : decode cX1_value 21 = .ok (.iload_n 3, 1) := by decide +kernel
theorem dX1_value_22 : decode cX1_value 22 = .ok (.i2l, 1) := by decide +kernel
theorem dX1_value_23 : decode cX1_value 23 = .ok (.lastore, 1) := by decide +kernel
theorem dX1_value_24 : decode cX1_value 24 = .ok (.aload_n 0, 1) := by decide +kernel
theorem dX1_value_25 : decode cX1_value 25 = .ok (.getfield 21, 3) := by decide +kernel
theorem dX1_value_28 : decode cX1_value 28 = .ok (.iconst 3, 1) := by decide +kernel
theorem dX1_value_29 : decode cX1_value 29 = .ok (.iload 4, 2) := by decide +kernel
theorem dX1_value_31 : decode cX1_value 31 = .ok (.i2l, 1) := by decide +kernel
theorem dX1_value_32 : decode cX1_value 32 = .ok (.lastore, 1) := by decide +kernel
theorem dX1_value_33 : decode cX1_value 33 = .ok (.aload_n 0, 1) := by decide +kernel
theorem dX1_value_34 : decode cX1_value 34 = .ok (.getfield 21, 3) := by decide +kernel
theorem dX1_value_37 : decode cX1_value 37 = .ok (.iconst 4, 1) := by decide +kernel
theorem dX1_value_38 : decode cX1_value 38 = .ok (.iload 5, 2) := by decide +kernel
theorem dX1_value_40 : decode cX1_value 40 = .ok (.i2l, 1) := by decide +kernel
theorem dX1_value_41 : decode cX1_value 41 = .ok (.lastore, 1) := by decide +kernel
theorem dX1_value_42 : decode cX1_value 42 = .ok (.aload_n 0, 1) := by decide +kernel
theorem dX1_value_43 : decode cX1_value 43 = .ok (.getfield 21, 3) := by decide +kernel
theorem dX1_value_46 : decode cX1_value 46 = .ok (.iconst 5, 1) := by decide +kernel
theorem dX1_value_47 : decode cX1_value 47 = .ok (.iload 6, 2) := by decide +kernel
theorem dX1_value_49 : decode cX1_value 49 = .ok (.i2l, 1) := by decide +kernel
theorem dX1_value_50 : decode cX1_value 50 = .ok (.lastore, 1) := by decide +kernel
theorem dX1_value_51 : decode cX1_value 51 = .ok (.iconst (-1), 1) := by decide +kernel
theorem dX1_value_52 : decode cX1_value 52 = .ok (.istore 7, 2) := by decide +kernel
theorem dX1_value_54 : decode cX1_value 54 = .ok (.iconst 0, 1) := by decide +kernel
theorem dX1_value_55 : decode cX1_value 55 = .ok (.istore 8, 2) := by decide +kernel
theorem dX1_value_57 : decode cX1_value 57 = .ok (.iload 8, 2) := by decide +kernel
theorem dX1_value_59 : decode cX1_value 59 = .ok (.aload_n 0, 1) := by decide +kernel
theorem dX1_value_60 : decode cX1_value 60 = .ok (.getfield 24, 3) := by decide +kernel
theorem dX1_value_63 : decode cX1_value 63 = .ok (.if_icmp .ge 183, 3) := by decide +kernel
theorem dX1_value_66 : decode cX1_value 66 = .ok (.aload_n 0, 1) := by decide +kernel
theorem dX1_value_67 : decode cX1_value 67 = .ok (.getfield 11, 3) := by decide +kernel
theorem dX1_value_70 : decode cX1_value 70 = .ok (.iload 8, 2) := by decide +kernel
theorem dX1_value_72 : decode cX1_value 72 = .ok (.iaload, 1) := by decide +kernel
theorem dX1_value_73 : decode cX1_value 73 = .ok (.istore 9, 2) := by decide +kernel
theorem dX1_value_75 : decode cX1_value 75 = .ok (.bipush (-10), 2) := by decide +kernel
theorem dX1_value_77 : decode cX1_value 77 = .ok (.iload 9, 2) := by decide +kernel
theorem dX1_value_79 : decode cX1_value 79 = .ok (.isub, 1) := by decide +kernel
theorem dX1_value_80 : decode cX1_value 80 = .ok (.istore 10, 2) := by decide +kernel
theorem dX1_value_82 : decode cX1_value 82 = .ok (.iload 9, 2) := by decide +kernel
theorem dX1_value_84 : decode cX1_value 84 = .ok (.ifCond .ge 8, 3) := by decide +kernel
theorem dX1_value_87 : decode cX1_value 87 = .ok (.iload 10, 2) := by decide +kernel
theorem dX1_value_89 : decode cX1_value 89 = .ok (.ifCond .ge 54, 3) := by decide +kernel
theorem dX1_value_92 : decode cX1_value 92 = .ok (.iinc 7 1, 3) := by decide +kernel
theorem dX1_value_95 : decode cX1_value 95 = .ok (.iload 7, 2) := by decide +kernel
theorem dX1_value_97 : decode cX1_value 97 = .ok (.bipush 64, 2) := by decide +kernel
theorem dX1_value_99 : decode cX1_value 99 = .ok (.if_icmp .ge 10, 3) := by decide +kernel
theorem dX1_value_102 : decode cX1_value 102 = .ok (.iload 9, 2) := by decide +kernel
theorem dX1_value_104 : decode cX1_value 104 = .ok (.bipush (-7), 2) := by decide +kernel
theorem dX1_value_106 : decode cX1_value 106 = .ok (.if_icmp .gt 7, 3) := by decide +kernel
theorem dX1_value_109 : decode cX1_value 109 = .ok (.ldc2_w 38, 3) := by decide +kernel
theorem dX1_value_112 : decode cX1_value 112 = .ok (.lreturn, 1) := by decide +kernel
theorem dX1_value_113 : decode cX1_value 113 = .ok (.aload_n 0, 1) := by decide +kernel
theorem dX1_value_114 : decode cX1_value 114 = .ok (.getfield 17, 3) := by decide +kernel
theorem dX1_value_117 : decode cX1_value 117 = .ok (.iload 7, 2) := by decide +kernel
theorem dX1_value_119 : decode cX1_value 119 = .ok (.iload 9, 2) := by decide +kernel
theorem dX1_value_121 : decode cX1_value 121 = .ok (.ifCond .lt 9, 3) := by decide +kernel
theorem dX1_value_124 : decode cX1_value 124 = .ok (.iload 9, 2) := by decide +kernel
theorem dX1_value_126 : decode cX1_value 126 = .ok (.i2l, 1) := by decide +kernel
theorem dX1_value_127 : decode cX1_value 127 = .ok (.goto 12, 3) := by decide +kernel
theorem dX1_value_130 : decode cX1_value 130 = .ok (.aload_n 0, 1) := by decide +kernel
theorem dX1_value_131 : decode cX1_value 131 = .ok (.getfield 21, 3) := by decide +kernel
theorem dX1_value_134 : decode cX1_value 134 = .ok (.iconst (-1), 1) := by decide +kernel
theorem dX1_value_135 : decode cX1_value 135 = .ok (.iload 9, 2) := by decide +kernel
theorem dX1_value_137 : decode cX1_value 137 = .ok (.isub, 1) := by decide +kernel
theorem dX1_value_138 : decode cX1_value 138 = .ok (.laload, 1) := by decide +kernel
theorem dX1_value_139 : decode cX1_value 139 = .ok (.lastore, 1) := by decide +kernel
theorem dX1_value_140 : decode cX1_value 140 = .ok (.goto 100, 3) := by decide +kernel
theorem dX1_value_143 : decode cX1_value 143 = .ok (.iload 10, 2) := by decide +kernel
theorem dX1_value_145 : decode cX1_value 145 = .ok (.iconst 2, 1) := by decide +kernel
theorem dX1_value_146 : decode cX1_value 146 = .ok (.if_icmp .ne 35, 3) := by decide +kernel
theorem dX1_value_149 : decode cX1_value 149 = .ok (.iload 7, 2) := by decide +kernel
theorem dX1_value_151 : decode cX1_value 151 = .ok (.ifCond .lt 30, 3) := by decide +kernel
theorem dX1_value_154 : decode cX1_value 154 = .ok (.aload_n 0, 1) := by decide +kernel
theorem dX1_value_155 : decode cX1_value 155 = .ok (.getfield 17, 3) := by decide +kernel
theorem dX1_value_158 : decode cX1_value 158 = .ok (.iload 7, 2) := by decide +kernel
theorem dX1_value_160 : decode cX1_value 160 = .ok (.aload_n 0, 1) := by decide +kernel
theorem dX1_value_161 : decode cX1_value 161 = .ok (.getfield 17, 3) := by decide +kernel
theorem dX1_value_164 : decode cX1_value 164 = .ok (.iload 7, 2) := by decide +kernel
theorem dX1_value_166 : decode cX1_value 166 = .ok (.laload, 1) := by decide +kernel
theorem dX1_value_167 : decode cX1_value 167 = .ok (.lconst 0, 1) := by decide +kernel
theorem dX1_value_168 : decode cX1_value 168 = .ok (.lcmp, 1) := by decide +kernel
theorem dX1_value_169 : decode cX1_value 169 = .ok (.ifCond .ne 7, 3) := by decide +kernel
theorem dX1_value_172 : decode cX1_value 172 = .ok (.lconst 1, 1) := by decide +kernel
theorem dX1_value_173 : decode cX1_value 173 = .ok (.goto 4, 3) := by decide +kernel
theorem dX1_value_176 : decode cX1_value 176 = .ok (.lconst 0, 1) := by decide +kernel
theorem dX1_value_177 : decode cX1_value 177 = .ok (.lastore, 1) := by decide +kernel
theorem dX1_value_178 : decode cX1_value 178 = .ok (.goto 62, 3) := by decide +kernel
theorem dX1_value_181 : decode cX1_value 181 = .ok (.iload 7, 2) := by decide +kernel
theorem dX1_value_183 : decode cX1_value 183 = .ok (.iconst 1, 1) := by decide +kernel
theorem dX1_value_184 : decode cX1_value 184 = .ok (.if_icmp .ge 7, 3) := by decide +kernel
theorem dX1_value_187 : decode cX1_value 187 = .ok (.ldc2_w 38, 3) := by decide +kernel
theorem dX1_value_190 : decode cX1_value 190 = .ok (.lreturn, 1) := by decide +kernel
theorem dX1_value_191 : decode cX1_value 191 = .ok (.iinc 7 (-1), 3) := by decide +kernel
theorem dX1_value_194 : decode cX1_value 194 = .ok (.aload_n 0, 1) := by decide +kernel
theorem dX1_value_195 : decode cX1_value 195 = .ok (.getfield 17, 3) := by decide +kernel
theorem dX1_value_198 : decode cX1_value 198 = .ok (.iload 7, 2) := by decide +kernel
theorem dX1_value_200 : decode cX1_value 200 = .ok (.iload 10, 2) := by decide +kernel
theorem dX1_value_202 : decode cX1_value 202 = .ok (.aload_n 0, 1) := by decide +kernel
theorem dX1_value_203 : decode cX1_value 203 = .ok (.getfield 17, 3) := by decide +kernel
theorem dX1_value_206 : decode cX1_value 206 = .ok (.iload 7, 2) := by decide +kernel
theorem dX1_value_208 : decode cX1_value 208 = .ok (.laload, 1) := by decide +kernel
theorem dX1_value_209 : decode cX1_value 209 = .ok (.aload_n 0, 1) := by decide +kernel
theorem dX1_value_210 : decode cX1_value 210 = .ok (.getfield 17, 3) := by decide +kernel
theorem dX1_value_213 : decode cX1_value 213 = .ok (.iload 7, 2) := by decide +kernel
theorem dX1_value_215 : decode cX1_value 215 = .ok (.iconst 1, 1) := by decide +kernel
theorem dX1_value_216 : decode cX1_value 216 = .ok (.iadd, 1) := by decide +kernel
theorem dX1_value_217 : decode cX1_value 217 = .ok (.laload, 1) := by decide +kernel
theorem dX1_value_218 : decode cX1_value 218 = .ok (.invokestatic 40, 3) := by decide +kernel
theorem dX1_value_221 : decode cX1_value 221 = .ok (.lastore, 1) := by decide +kernel
theorem dX1_value_222 : decode cX1_value 222 = .ok (.aload_n 0, 1) := by decide +kernel
theorem dX1_value_223 : decode cX1_value 223 = .ok (.getfield 17, 3) := by decide +kernel
theorem dX1_value_226 : decode cX1_value 226 = .ok (.iload 7, 2) := by decide +kernel
theorem dX1_value_228 : decode cX1_value 228 = .ok (.laload, 1) := by decide +kernel
theorem dX1_value_229 : decode cX1_value 229 = .ok (.ldc2_w 38, 3) := by decide +kernel
theorem dX1_value_232 : decode cX1_value 232 = .ok (.lcmp, 1) := by decide +kernel
theorem dX1_value_233 : decode cX1_value 233 = .ok (.ifCond .ne 7, 3) := by decide +kernel
theorem dX1_value_236 : decode cX1_value 236 = .ok (.ldc2_w 38, 3) := by decide +kernel
theorem dX1_value_239 : decode cX1_value 239 = .ok (.lreturn, 1) := by decide +kernel
theorem dX1_value_240 : decode cX1_value 240 = .ok (.iinc 8 1, 3) := by decide +kernel
theorem dX1_value_243 : decode cX1_value 243 = .ok (.goto (-186), 3) := by decide +kernel
theorem dX1_value_246 : decode cX1_value 246 = .ok (.iload 7, 2) := by decide +kernel
theorem dX1_value_248 : decode cX1_value 248 = .ok (.ifCond .ne 12, 3) := by decide +kernel
theorem dX1_value_251 : decode cX1_value 251 = .ok (.aload_n 0, 1) := by decide +kernel
theorem dX1_value_252 : decode cX1_value 252 = .ok (.getfield 17, 3) := by decide +kernel
theorem dX1_value_255 : decode cX1_value 255 = .ok (.iconst 0, 1) := by decide +kernel
theorem dX1_value_256 : decode cX1_value 256 = .ok (.laload, 1) := by decide +kernel
theorem dX1_value_257 : decode cX1_value 257 = .ok (.goto 6, 3) := by decide +kernel
theorem dX1_value_260 : decode cX1_value 260 = .ok (.ldc2_w 38, 3) := by decide +kernel
theorem dX1_value_263 : decode cX1_value 263 = .ok (.lreturn, 1) := by decide +kernel
theorem dX1_joined_0 : decode cX1_joined 0 = .ok (.iload_n 0, 1) := by decide +kernel
theorem dX1_joined_1 : decode cX1_joined 1 = .ok (.tableswitch 237 0 11 #[63, 81, 237, 99, 111, 123, 135, 147, 159, 171, 179, 187], 63) := by decide +kernel
theorem dX1_joined_64 : decode cX1_joined 64 = .ok (.lload_n 1, 1) := by decide +kernel
theorem dX1_joined_65 : decode cX1_joined 65 = .ok (.lconst 0, 1) := by decide +kernel
theorem dX1_joined_66 : decode cX1_joined 66 = .ok (.lcmp, 1) := by decide +kernel
theorem dX1_joined_67 : decode cX1_joined 67 = .ok (.ifCond .ne 9, 3) := by decide +kernel
theorem dX1_joined_70 : decode cX1_joined 70 = .ok (.lload_n 3, 1) := by decide +kernel
theorem dX1_joined_71 : decode cX1_joined 71 = .ok (.lconst 0, 1) := by decide +kernel
theorem dX1_joined_72 : decode cX1_joined 72 = .ok (.lcmp, 1) := by decide +kernel
theorem dX1_joined_73 : decode cX1_joined 73 = .ok (.ifCond .eq 7, 3) := by decide +kernel
theorem dX1_joined_76 : decode cX1_joined 76 = .ok (.lconst 1, 1) := by decide +kernel
theorem dX1_joined_77 : decode cX1_joined 77 = .ok (.goto 4, 3) := by decide +kernel
theorem dX1_joined_80 : decode cX1_joined 80 = .ok (.lconst 0, 1) := by decide +kernel
theorem dX1_joined_81 : decode cX1_joined 81 = .ok (.lreturn, 1) := by decide +kernel
theorem dX1_joined_82 : decode cX1_joined 82 = .ok (.lload_n 1, 1) := by decide +kernel
theorem dX1_joined_83 : decode cX1_joined 83 = .ok (.lconst 0, 1) := by decide +kernel
theorem dX1_joined_84 : decode cX1_joined 84 = .ok (.lcmp, 1) := by decide +kernel
theorem dX1_joined_85 : decode cX1_joined 85 = .ok (.ifCond .eq 13, 3) := by decide +kernel
theorem dX1_joined_88 : decode cX1_joined 88 = .ok (.lload_n 3, 1) := by decide +kernel
theorem dX1_joined_89 : decode cX1_joined 89 = .ok (.lconst 0, 1) := by decide +kernel
theorem dX1_joined_90 : decode cX1_joined 90 = .ok (.lcmp, 1) := by decide +kernel
theorem dX1_joined_91 : decode cX1_joined 91 = .ok (.ifCond .eq 7, 3) := by decide +kernel
theorem dX1_joined_94 : decode cX1_joined 94 = .ok (.lconst 1, 1) := by decide +kernel
theorem dX1_joined_95 : decode cX1_joined 95 = .ok (.goto 4, 3) := by decide +kernel
theorem dX1_joined_98 : decode cX1_joined 98 = .ok (.lconst 0, 1) := by decide +kernel
theorem dX1_joined_99 : decode cX1_joined 99 = .ok (.lreturn, 1) := by decide +kernel
theorem dX1_joined_100 : decode cX1_joined 100 = .ok (.lload_n 1, 1) := by decide +kernel
theorem dX1_joined_101 : decode cX1_joined 101 = .ok (.lload_n 3, 1) := by decide +kernel
theorem dX1_joined_102 : decode cX1_joined 102 = .ok (.lcmp, 1) := by decide +kernel
theorem dX1_joined_103 : decode cX1_joined 103 = .ok (.ifCond .ge 7, 3) := by decide +kernel
theorem dX1_joined_106 : decode cX1_joined 106 = .ok (.lconst 1, 1) := by decide +kernel
theorem dX1_joined_107 : decode cX1_joined 107 = .ok (.goto 4, 3) := by decide +kernel
theorem dX1_joined_110 : decode cX1_joined 110 = .ok (.lconst 0, 1) := by decide +kernel
theorem dX1_joined_111 : decode cX1_joined 111 = .ok (.lreturn, 1) := by decide +kernel
theorem dX1_joined_112 : decode cX1_joined 112 = .ok (.lload_n 1, 1) := by decide +kernel
theorem dX1_joined_113 : decode cX1_joined 113 = .ok (.lload_n 3, 1) := by decide +kernel
theorem dX1_joined_114 : decode cX1_joined 114 = .ok (.lcmp, 1) := by decide +kernel
theorem dX1_joined_115 : decode cX1_joined 115 = .ok (.ifCond .gt 7, 3) := by decide +kernel
theorem dX1_joined_118 : decode cX1_joined 118 = .ok (.lconst 1, 1) := by decide +kernel
theorem dX1_joined_119 : decode cX1_joined 119 = .ok (.goto 4, 3) := by decide +kernel
theorem dX1_joined_122 : decode cX1_joined 122 = .ok (.lconst 0, 1) := by decide +kernel
theorem dX1_joined_123 : decode cX1_joined 123 = .ok (.lreturn, 1) := by decide +kernel
theorem dX1_joined_124 : decode cX1_joined 124 = .ok (.lload_n 1, 1) := by decide +kernel
theorem dX1_joined_125 : decode cX1_joined 125 = .ok (.lload_n 3, 1) := by decide +kernel
theorem dX1_joined_126 : decode cX1_joined 126 = .ok (.lcmp, 1) := by decide +kernel
theorem dX1_joined_127 : decode cX1_joined 127 = .ok (.ifCond .ne 7, 3) := by decide +kernel
theorem dX1_joined_130 : decode cX1_joined 130 = .ok (.lconst 1, 1) := by decide +kernel
theorem dX1_joined_131 : decode cX1_joined 131 = .ok (.goto 4, 3) := by decide +kernel
theorem dX1_joined_134 : decode cX1_joined 134 = .ok (.lconst 0, 1) := by decide +kernel
theorem dX1_joined_135 : decode cX1_joined 135 = .ok (.lreturn, 1) := by decide +kernel
theorem dX1_joined_136 : decode cX1_joined 136 = .ok (.lload_n 1, 1) := by decide +kernel
theorem dX1_joined_137 : decode cX1_joined 137 = .ok (.lload_n 3, 1) := by decide +kernel
theorem dX1_joined_138 : decode cX1_joined 138 = .ok (.lcmp, 1) := by decide +kernel
theorem dX1_joined_139 : decode cX1_joined 139 = .ok (.ifCond .eq 7, 3) := by decide +kernel
theorem dX1_joined_142 : decode cX1_joined 142 = .ok (.lconst 1, 1) := by decide +kernel
theorem dX1_joined_143 : decode cX1_joined 143 = .ok (.goto 4, 3) := by decide +kernel
theorem dX1_joined_146 : decode cX1_joined 146 = .ok (.lconst 0, 1) := by decide +kernel
theorem dX1_joined_147 : decode cX1_joined 147 = .ok (.lreturn, 1) := by decide +kernel
theorem dX1_joined_148 : decode cX1_joined 148 = .ok (.lload_n 1, 1) := by decide +kernel
theorem dX1_joined_149 : decode cX1_joined 149 = .ok (.lload_n 3, 1) := by decide +kernel
theorem dX1_joined_150 : decode cX1_joined 150 = .ok (.lcmp, 1) := by decide +kernel
theorem dX1_joined_151 : decode cX1_joined 151 = .ok (.ifCond .lt 7, 3) := by decide +kernel
theorem dX1_joined_154 : decode cX1_joined 154 = .ok (.lconst 1, 1) := by decide +kernel
theorem dX1_joined_155 : decode cX1_joined 155 = .ok (.goto 4, 3) := by decide +kernel
theorem dX1_joined_158 : decode cX1_joined 158 = .ok (.lconst 0, 1) := by decide +kernel
theorem dX1_joined_159 : decode cX1_joined 159 = .ok (.lreturn, 1) := by decide +kernel
theorem dX1_joined_160 : decode cX1_joined 160 = .ok (.lload_n 1, 1) := by decide +kernel
theorem dX1_joined_161 : decode cX1_joined 161 = .ok (.lload_n 3, 1) := by decide +kernel
theorem dX1_joined_162 : decode cX1_joined 162 = .ok (.lcmp, 1) := by decide +kernel
theorem dX1_joined_163 : decode cX1_joined 163 = .ok (.ifCond .le 7, 3) := by decide +kernel
theorem dX1_joined_166 : decode cX1_joined 166 = .ok (.lconst 1, 1) := by decide +kernel
theorem dX1_joined_167 : decode cX1_joined 167 = .ok (.goto 4, 3) := by decide +kernel
theorem dX1_joined_170 : decode cX1_joined 170 = .ok (.lconst 0, 1) := by decide +kernel
theorem dX1_joined_171 : decode cX1_joined 171 = .ok (.lreturn, 1) := by decide +kernel
theorem dX1_joined_172 : decode cX1_joined 172 = .ok (.lload_n 1, 1) := by decide +kernel
theorem dX1_joined_173 : decode cX1_joined 173 = .ok (.lload_n 3, 1) := by decide +kernel
theorem dX1_joined_174 : decode cX1_joined 174 = .ok (.ladd, 1) := by decide +kernel
theorem dX1_joined_175 : decode cX1_joined 175 = .ok (.lstore 5, 2) := by decide +kernel
theorem dX1_joined_177 : decode cX1_joined 177 = .ok (.goto 76, 3) := by decide +kernel
theorem dX1_joined_180 : decode cX1_joined 180 = .ok (.lload_n 1, 1) := by decide +kernel
theorem dX1_joined_181 : decode cX1_joined 181 = .ok (.lload_n 3, 1) := by decide +kernel
theorem dX1_joined_182 : decode cX1_joined 182 = .ok (.lsub, 1) := by decide +kernel
theorem dX1_joined_183 : decode cX1_joined 183 = .ok (.lstore 5, 2) := by decide +kernel
theorem dX1_joined_185 : decode cX1_joined 185 = .ok (.goto 68, 3) := by decide +kernel
theorem dX1_joined_188 : decode cX1_joined 188 = .ok (.lload_n 3, 1) := by decide +kernel
theorem dX1_joined_189 : decode cX1_joined 189 = .ok (.lconst 0, 1) := by decide +kernel
theorem dX1_joined_190 : decode cX1_joined 190 = .ok (.lcmp, 1) := by decide +kernel
theorem dX1_joined_191 : decode cX1_joined 191 = .ok (.ifCond .eq 39, 3) := by decide +kernel
theorem dX1_joined_194 : decode cX1_joined 194 = .ok (.lload_n 1, 1) := by decide +kernel
theorem dX1_joined_195 : decode cX1_joined 195 = .ok (.lconst 0, 1) := by decide +kernel
theorem dX1_joined_196 : decode cX1_joined 196 = .ok (.lcmp, 1) := by decide +kernel
theorem dX1_joined_197 : decode cX1_joined 197 = .ok (.ifCond .ge 8, 3) := by decide +kernel
theorem dX1_joined_200 : decode cX1_joined 200 = .ok (.lload_n 1, 1) := by decide +kernel
theorem dX1_joined_201 : decode cX1_joined 201 = .ok (.lneg, 1) := by decide +kernel
theorem dX1_joined_202 : decode cX1_joined 202 = .ok (.goto 4, 3) := by decide +kernel
theorem dX1_joined_205 : decode cX1_joined 205 = .ok (.lload_n 1, 1) := by decide +kernel
theorem dX1_joined_206 : decode cX1_joined 206 = .ok (.ldc2_w 44, 3) := by decide +kernel
theorem dX1_joined_209 : decode cX1_joined 209 = .ok (.lload_n 3, 1) := by decide +kernel
theorem dX1_joined_210 : decode cX1_joined 210 = .ok (.lconst 0, 1) := by decide +kernel
theorem dX1_joined_211 : decode cX1_joined 211 = .ok (.lcmp, 1) := by decide +kernel
theorem dX1_joined_212 : decode cX1_joined 212 = .ok (.ifCond .ge 8, 3) := by decide +kernel
theorem dX1_joined_215 : decode cX1_joined 215 = .ok (.lload_n 3, 1) := by decide +kernel
theorem dX1_joined_216 : decode cX1_joined 216 = .ok (.lneg, 1) := by decide +kernel
theorem dX1_joined_217 : decode cX1_joined 217 = .ok (.goto 4, 3) := by decide +kernel
theorem dX1_joined_220 : decode cX1_joined 220 = .ok (.lload_n 3, 1) := by decide +kernel
theorem dX1_joined_221 : decode cX1_joined 221 = .ok (.ldiv, 1) := by decide +kernel
theorem dX1_joined_222 : decode cX1_joined 222 = .ok (.lcmp, 1) := by decide +kernel
theorem dX1_joined_223 : decode cX1_joined 223 = .ok (.ifCond .le 7, 3) := by decide +kernel
theorem dX1_joined_226 : decode cX1_joined 226 = .ok (.ldc2_w 38, 3) := by decide +kernel
theorem dX1_joined_229 : decode cX1_joined 229 = .ok (.lreturn, 1) := by decide +kernel
theorem dX1_joined_230 : decode cX1_joined 230 = .ok (.lload_n 1, 1) := by decide +kernel
theorem dX1_joined_231 : decode cX1_joined 231 = .ok (.lload_n 3, 1) := by decide +kernel
theorem dX1_joined_232 : decode cX1_joined 232 = .ok (.lmul, 1) := by decide +kernel
theorem dX1_joined_233 : decode cX1_joined 233 = .ok (.lstore 5, 2) := by decide +kernel
theorem dX1_joined_235 : decode cX1_joined 235 = .ok (.goto 18, 3) := by decide +kernel
theorem dX1_joined_238 : decode cX1_joined 238 = .ok (.lload_n 3, 1) := by decide +kernel
theorem dX1_joined_239 : decode cX1_joined 239 = .ok (.lconst 0, 1) := by decide +kernel
theorem dX1_joined_240 : decode cX1_joined 240 = .ok (.lcmp, 1) := by decide +kernel
theorem dX1_joined_241 : decode cX1_joined 241 = .ok (.ifCond .ne 7, 3) := by decide +kernel
theorem dX1_joined_244 : decode cX1_joined 244 = .ok (.ldc2_w 38, 3) := by decide +kernel
theorem dX1_joined_247 : decode cX1_joined 247 = .ok (.lreturn, 1) := by decide +kernel
theorem dX1_joined_248 : decode cX1_joined 248 = .ok (.lload_n 1, 1) := by decide +kernel
theorem dX1_joined_249 : decode cX1_joined 249 = .ok (.lload_n 3, 1) := by decide +kernel
theorem dX1_joined_250 : decode cX1_joined 250 = .ok (.ldiv, 1) := by decide +kernel
theorem dX1_joined_251 : decode cX1_joined 251 = .ok (.lstore 5, 2) := by decide +kernel
theorem dX1_joined_253 : decode cX1_joined 253 = .ok (.lload 5, 2) := by decide +kernel
theorem dX1_joined_255 : decode cX1_joined 255 = .ok (.ldc2_w 44, 3) := by decide +kernel
theorem dX1_joined_258 : decode cX1_joined 258 = .ok (.lcmp, 1) := by decide +kernel
theorem dX1_joined_259 : decode cX1_joined 259 = .ok (.ifCond .gt 12, 3) := by decide +kernel
theorem dX1_joined_262 : decode cX1_joined 262 = .ok (.lload 5, 2) := by decide +kernel
theorem dX1_joined_264 : decode cX1_joined 264 = .ok (.ldc2_w 46, 3) := by decide +kernel
theorem dX1_joined_267 : decode cX1_joined 267 = .ok (.lcmp, 1) := by decide +kernel
theorem dX1_joined_268 : decode cX1_joined 268 = .ok (.ifCond .ge 9, 3) := by decide +kernel
theorem dX1_joined_271 : decode cX1_joined 271 = .ok (.ldc2_w 38, 3) := by decide +kernel
theorem dX1_joined_274 : decode cX1_joined 274 = .ok (.goto 5, 3) := by decide +kernel
theorem dX1_joined_277 : decode cX1_joined 277 = .ok (.lload 5, 2) := by decide +kernel
theorem dX1_joined_279 : decode cX1_joined 279 = .ok (.lreturn, 1) := by decide +kernel
theorem dX2_init_0 : decode cX2_init 0 = .ok (.aload_n 0, 1) := by decide +kernel
theorem dX2_init_1 : decode cX2_init 1 = .ok (.invokespecial 3, 3) := by decide +kernel
theorem dX2_init_4 : decode cX2_init 4 = .ok (.aload_n 0, 1) := by decide +kernel
theorem dX2_init_5 : decode cX2_init 5 = .ok (.new 9, 3) := by decide +kernel
theorem dX2_init_8 : decode cX2_init 8 = .ok (.dup, 1) := by decide +kernel
theorem dX2_init_9 : decode cX2_init 9 = .ok (.iconst 3, 1) := by decide +kernel
theorem dX2_init_10 : decode cX2_init 10 = .ok (.bipush 24, 2) := by decide +kernel
theorem dX2_init_12 : decode cX2_init 12 = .ok (.invokespecial 13, 3) := by decide +kernel
theorem dX2_init_15 : decode cX2_init 15 = .ok (.putfield 16, 3) := by decide +kernel
theorem dX2_init_18 : decode cX2_init 18 = .ok (.aload_n 0, 1) := by decide +kernel
theorem dX2_init_19 : decode cX2_init 19 = .ok (.bipush 24, 2) := by decide +kernel
theorem dX2_init_21 : decode cX2_init 21 = .ok (.newarray .boolean, 2) := by decide +kernel
theorem dX2_init_23 : decode cX2_init 23 = .ok (.putfield 20, 3) := by decide +kernel
theorem dX2_init_26 : decode cX2_init 26 = .ok (.aload_n 0, 1) := by decide +kernel
theorem dX2_init_27 : decode cX2_init 27 = .ok (.bipush 48, 2) := by decide +kernel
theorem dX2_init_29 : decode cX2_init 29 = .ok (.newarray .int, 2) := by decide +kernel
theorem dX2_init_31 : decode cX2_init 31 = .ok (.putfield 24, 3) := by decide +kernel
theorem dX2_init_34 : decode cX2_init 34 = .ok (.aload_n 0, 1) := by decide +kernel
theorem dX2_init_35 : decode cX2_init 35 = .ok (.bipush 48, 2) := by decide +kernel
theorem dX2_init_37 : decode cX2_init 37 = .ok (.newarray .int, 2) := by decide +kernel
theorem dX2_init_39 : decode cX2_init 39 = .ok (.putfield 28, 3) := by decide +kernel
theorem dX2_init_42 : decode cX2_init 42 = .ok (.aload_n 0, 1) := by decide +kernel
theorem dX2_init_43 : decode cX2_init 43 = .ok (.iconst (-1), 1) := by decide +kernel
theorem dX2_init_44 : decode cX2_init 44 = .ok (.putfield 31, 3) := by decide +kernel
theorem dX2_init_47 : decode cX2_init 47 = .ok (.return_, 1) := by decide +kernel
theorem dX2_clear_0 : decode cX2_clear 0 = .ok (.aload_n 0, 1) := by decide +kernel
theorem dX2_clear_1 : decode cX2_clear 1 = .ok (.getfield 16, 3) := by decide +kernel
theorem dX2_clear_4 : decode cX2_clear 4 = .ok (.invokevirtual 35, 3) := by decide +kernel
theorem dX2_clear_7 : decode cX2_clear 7 = .ok (.aload_n 0, 1) := by decide +kernel
theorem dX2_clear_8 : decode cX2_clear 8 = .ok (.iconst (-1), 1) := by decide +kernel
theorem dX2_clear_9 : decode cX2_clear 9 = .ok (.putfield 31, 3) := by decide +kernel
theorem dX2_clear_12 : decode cX2_clear 12 = .ok (.return_, 1) := by decide +kernel
theorem dX2_knownMany_0 : decode cX2_knownMany 0 = .ok (.aload_n 0, 1) := by decide +kernel
theorem dX2_knownMany_1 : decode cX2_knownMany 1 = .ok (.getfield 31, 3) := by decide +kernel
theorem dX2_knownMany_4 : decode cX2_knownMany 4 = .ok (.iconst (-1), 1) := by decide +kernel
theorem dX2_knownMany_5 : decode cX2_knownMany 5 = .ok (.if_icmp .ne 13, 3) := by decide +kernel
theorem dX2_knownMany_8 : decode cX2_knownMany 8 = .ok (.aload_n 0, 1) := by decide +kernel
theorem dX2_knownMany_9 : decode cX2_knownMany 9 = .ok (.getfield 16, 3) := by decide +kernel
theorem dX2_knownMany_12 : decode cX2_knownMany 12 = .ok (.getfield 38, 3) := by decide +kernel
theorem dX2_knownMany_15 : decode cX2_knownMany 15 = .ok (.goto 7, 3) := by decide +kernel
theorem dX2_knownMany_18 : decode cX2_knownMany 18 = .ok (.aload_n 0, 1) := by decide +kernel
theorem dX2_knownMany_19 : decode cX2_knownMany 19 = .ok (.getfield 31, 3) := by decide +kernel
theorem dX2_knownMany_22 : decode cX2_knownMany 22 = .ok (.ireturn, 1) := by decide +kernel
theorem dX2_seek_0 : decode cX2_seek 0 = .ok (.iconst (-1), 1) := by decide +kernel
theorem dX2_seek_1 : decode cX2_seek 1 = .ok (.istore 4, 2) := by decide +kernel
theorem dX2_seek_3 : decode cX2_seek 3 = .ok (.aload_n 0, 1) := by decide +kernel
theorem dX2_seek_4 : decode cX2_seek 4 = .ok (.aload_n 2, 1) := by decide +kernel
theorem dX2_seek_5 : decode cX2_seek 5 = .ok (.invokevirtual 41, 3) := by decide +kernel
theorem dX2_seek_8 : decode cX2_seek 8 = .ok (.ifCond .ne 5, 3) := by decide +kernel
theorem dX2_seek_11 : decode cX2_seek 11 = .ok (.iconst 0, 1) := by decide +kernel
theorem dX2_seek_12 : decode cX2_seek 12 = .ok (.ireturn, 1) := by decide +kernel
theorem dX2_seek_13 : decode cX2_seek 13 = .ok (.iconst 0, 1) := by decide +kernel
theorem dX2_seek_14 : decode cX2_seek 14 = .ok (.istore 5, 2) := by decide +kernel
theorem dX2_seek_16 : decode cX2_seek 16 = .ok (.iload 5, 2) := by decide +kernel
theorem dX2_seek_18 : decode cX2_seek 18 = .ok (.bipush 48, 2) := by decide +kernel
theorem dX2_seek_20 : decode cX2_seek 20 = .ok (.if_icmp .ge 46, 3) := by decide +kernel
theorem dX2_seek_23 : decode cX2_seek 23 = .ok (.aload_n 0, 1) := by decide +kernel
theorem dX2_seek_24 : decode cX2_seek 24 = .ok (.getfield 24, 3) := by decide +kernel
theorem dX2_seek_27 : decode cX2_seek 27 = .ok (.iload 5, 2) := by decide +kernel
theorem dX2_seek_29 : decode cX2_seek 29 = .ok (.iaload, 1) := by decide +kernel
theorem dX2_seek_30 : decode cX2_seek 30 = .ok (.ifCond .eq 11, 3) := by decide +kernel
theorem dX2_seek_33 : decode cX2_seek 33 = .ok (.iload 4, 2) := by decide +kernel
theorem dX2_seek_35 : decode cX2_seek 35 = .ok (.iconst (-1), 1) := by decide +kernel
theorem dX2_seek_36 : decode cX2_seek 36 = .ok (.if_icmp .eq 5, 3) := by decide +kernel
theorem dX2_seek_39 : decode cX2_seek 39 = .ok (.iconst 0, 1) := by decide +kernel
theorem dX2_seek_40 : decode cX2_seek 40 = .ok (.ireturn, 1) := by decide +kernel
theorem dX2_seek_41 : decode cX2_seek 41 = .ok (.aload_n 0, 1) := by decide +kernel
theorem dX2_seek_42 : decode cX2_seek 42 = .ok (.getfield 24, 3) := by decide +kernel
theorem dX2_seek_45 : decode cX2_seek 45 = .ok (.iload 5, 2) := by decide +kernel
theorem dX2_seek_47 : decode cX2_seek 47 = .ok (.iaload, 1) := by decide +kernel
theorem dX2_seek_48 : decode cX2_seek 48 = .ok (.ifCond .eq 8, 3) := by decide +kernel
theorem dX2_seek_51 : decode cX2_seek 51 = .ok (.iload 5, 2) := by decide +kernel
theorem dX2_seek_53 : decode cX2_seek 53 = .ok (.goto 5, 3) := by decide +kernel
theorem dX2_seek_56 : decode cX2_seek 56 = .ok (.iload 4, 2) := by decide +kernel
theorem dX2_seek_58 : decode cX2_seek 58 = .ok (.istore 4, 2) := by decide +kernel
theorem dX2_seek_60 : decode cX2_seek 60 = .ok (.iinc 5 1, 3) := by decide +kernel
theorem dX2_seek_63 : decode cX2_seek 63 = .ok (.goto (-47), 3) := by decide +kernel
theorem dX2_seek_66 : decode cX2_seek 66 = .ok (.iconst 0, 1) := by decide +kernel
theorem dX2_seek_67 : decode cX2_seek 67 = .ok (.istore 5, 2) := by decide +kernel
theorem dX2_seek_69 : decode cX2_seek 69 = .ok (.iconst 0, 1) := by decide +kernel
theorem dX2_seek_70 : decode cX2_seek 70 = .ok (.istore 6, 2) := by decide +kernel
theorem dX2_seek_72 : decode cX2_seek 72 = .ok (.iload 6, 2) := by decide +kernel
theorem dX2_seek_74 : decode cX2_seek 74 = .ok (.aload_n 1, 1) := by decide +kernel
theorem dX2_seek_75 : decode cX2_seek 75 = .ok (.getfield 45, 3) := by decide +kernel
theorem dX2_seek_78 : decode cX2_seek 78 = .ok (.getfield 38, 3) := by decide +kernel
theorem dX2_seek_81 : decode cX2_seek 81 = .ok (.bipush 48, 2) := by decide +kernel
theorem dX2_seek_83 : decode cX2_seek 83 = .ok (.imul, 1) := by decide +kernel
theorem dX2_seek_84 : decode cX2_seek 84 = .ok (.if_icmp .ge 44, 3) := by decide +kernel
theorem dX2_seek_87 : decode cX2_seek 87 = .ok (.iload 5, 2) := by decide +kernel
theorem dX2_seek_89 : decode cX2_seek 89 = .ok (.iload_n 3, 1) := by decide +kernel
theorem dX2_seek_90 : decode cX2_seek 90 = .ok (.if_icmp .gt 38, 3) := by decide +kernel
theorem dX2_seek_93 : decode cX2_seek 93 = .ok (.iload 4, 2) := by decide +kernel
theorem dX2_seek_95 : decode cX2_seek 95 = .ok (.iconst (-1), 1) := by decide +kernel
theorem dX2_seek_96 : decode cX2_seek 96 = .ok (.if_icmp .eq 13, 3) := by decide +kernel
theorem dX2_seek_99 : decode cX2_seek 99 = .ok (.iload 4, 2) := by decide +kernel
theorem dX2_seek_101 : decode cX2_seek 101 = .ok (.iload 6, 2) := by decide +kernel
theorem dX2_seek_103 : decode cX2_seek 103 = .ok (.bipush 48, 2) := by decide +kernel
theorem dX2_seek_105 : decode cX2_seek 105 = .ok (.irem, 1) := by decide +kernel
theorem dX2_seek_106 : decode cX2_seek 106 = .ok (.if_icmp .ne 16, 3) := by decide +kernel
theorem dX2_seek_109 : decode cX2_seek 109 = .ok (.aload_n 0, 1) := by decide +kernel
theorem dX2_seek_110 : decode cX2_seek 110 = .ok (.aload_n 1, 1) := by decide +kernel
theorem dX2_seek_111 : decode cX2_seek 111 = .ok (.aload_n 2, 1) := by decide +kernel
theorem dX2_seek_112 : decode cX2_seek 112 = .ok (.iload 6, 2) := by decide +kernel
theorem dX2_seek_114 : decode cX2_seek 114 = .ok (.iload 5, 2) := by decide +kernel
theorem dX2_seek_116 : decode cX2_seek 116 = .ok (.iload_n 3, 1) := by decide +kernel
theorem dX2_seek_117 : decode cX2_seek 117 = .ok (.invokevirtual 50, 3) := by decide +kernel
theorem dX2_seek_120 : decode cX2_seek 120 = .ok (.istore 5, 2) := by decide +kernel
theorem dX2_seek_122 : decode cX2_seek 122 = .ok (.iinc 6 1, 3) := by decide +kernel
theorem dX2_seek_125 : decode cX2_seek 125 = .ok (.goto (-53), 3) := by decide +kernel
theorem dX2_seek_128 : decode cX2_seek 128 = .ok (.iload 5, 2) := by decide +kernel
theorem dX2_seek_130 : decode cX2_seek 130 = .ok (.ireturn, 1) := by decide +kernel
theorem dX2_seekAt_0 : decode cX2_seekAt 0 = .ok (.iload 4, 2) := by decide +kernel
theorem dX2_seekAt_2 : decode cX2_seekAt 2 = .ok (.istore 6, 2) := by decide +kernel
theorem dX2_seekAt_4 : decode cX2_seekAt 4 = .ok (.iconst 1, 1) := by decide +kernel
theorem dX2_seekAt_5 : decode cX2_seekAt 5 = .ok (.istore 7, 2) := by decide +kernel
theorem dX2_seekAt_7 : decode cX2_seekAt 7 = .ok (.iload 7, 2) := by decide +kernel
theorem dX2_seekAt_9 : decode cX2_seekAt 9 = .ok (.bipush 20, 2) := by decide +kernel
theorem dX2_seekAt_11 : decode cX2_seekAt 11 = .ok (.if_icmp .gt 60, 3) := by decide +kernel
theorem dX2_seekAt_14 : decode cX2_seekAt 14 = .ok (.iload 6, 2) := by decide +kernel
theorem dX2_seekAt_16 : decode cX2_seekAt 16 = .ok (.iload 5, 2) := by decide +kernel
theorem dX2_seekAt_18 : decode cX2_seekAt 18 = .ok (.if_icmp .gt 53, 3) := by decide +kernel
theorem dX2_seekAt_21 : decode cX2_seekAt 21 = .ok (.aload_n 0, 1) := by decide +kernel
theorem dX2_seekAt_22 : decode cX2_seekAt 22 = .ok (.aload_n 1, 1) := by decide +kernel
theorem dX2_seekAt_23 : decode cX2_seekAt 23 = .ok (.aload_n 2, 1) := by decide +kernel
theorem dX2_seekAt_24 : decode cX2_seekAt 24 = .ok (.iload_n 3, 1) := by decide +kernel
theorem dX2_seekAt_25 : decode cX2_seekAt 25 = .ok (.bipush 48, 2) := by decide +kernel
theorem dX2_seekAt_27 : decode cX2_seekAt 27 = .ok (.idiv, 1) := by decide +kernel
theorem dX2_seekAt_28 : decode cX2_seekAt 28 = .ok (.iload_n 3, 1) := by decide +kernel
theorem dX2_seekAt_29 : decode cX2_seekAt 29 = .ok (.bipush 48, 2) := by decide +kernel
theorem dX2_seekAt_31 : decode cX2_seekAt 31 = .ok (.irem, 1) := by decide +kernel
theorem dX2_seekAt_32 : decode cX2_seekAt 32 = .ok (.iload 7, 2) := by decide +kernel
theorem dX2_seekAt_34 : decode cX2_seekAt 34 = .ok (.invokevirtual 54, 3) := by decide +kernel
theorem dX2_seekAt_37 : decode cX2_seekAt 37 = .ok (.ifCond .eq 28, 3) := by decide +kernel
theorem dX2_seekAt_40 : decode cX2_seekAt 40 = .ok (.aload_n 0, 1) := by decide +kernel
theorem dX2_seekAt_41 : decode cX2_seekAt 41 = .ok (.iload_n 3, 1) := by decide +kernel
theorem dX2_seekAt_42 : decode cX2_seekAt 42 = .ok (.bipush 48, 2) := by decide +kernel
theorem dX2_seekAt_44 : decode cX2_seekAt 44 = .ok (.idiv, 1) := by decide +kernel
theorem dX2_seekAt_45 : decode cX2_seekAt 45 = .ok (.putfield 58, 3) := by decide +kernel
theorem dX2_seekAt_48 : decode cX2_seekAt 48 = .ok (.aload_n 0, 1) := by decide +kernel
theorem dX2_seekAt_49 : decode cX2_seekAt 49 = .ok (.iload_n 3, 1) := by decide +kernel
theorem dX2_seekAt_50 : decode cX2_seekAt 50 = .ok (.bipush 48, 2) := by decide +kernel
theorem dX2_seekAt_52 : decode cX2_seekAt 52 = .ok (.irem, 1) := by decide +kernel
theorem dX2_seekAt_53 : decode cX2_seekAt 53 = .ok (.putfield 61, 3) := by decide +kernel
theorem dX2_seekAt_56 : decode cX2_seekAt 56 = .ok (.aload_n 0, 1) := by decide +kernel
theorem dX2_seekAt_57 : decode cX2_seekAt 57 = .ok (.iload 7, 2) := by decide +kernel
theorem dX2_seekAt_59 : decode cX2_seekAt 59 = .ok (.putfield 64, 3) := by decide +kernel
theorem dX2_seekAt_62 : decode cX2_seekAt 62 = .ok (.iinc 6 1, 3) := by decide +kernel
theorem dX2_seekAt_65 : decode cX2_seekAt 65 = .ok (.iinc 7 1, 3) := by decide +kernel
theorem dX2_seekAt_68 : decode cX2_seekAt 68 = .ok (.goto (-61), 3) := by decide +kernel
theorem dX2_seekAt_71 : decode cX2_seekAt 71 = .ok (.iload 6, 2) := by decide +kernel
theorem dX2_seekAt_73 : decode cX2_seekAt 73 = .ok (.ireturn, 1) := by decide +kernel
theorem dX2_sortNotes_0 : decode cX2_sortNotes 0 = .ok (.iconst 0, 1) := by decide +kernel
theorem dX2_sortNotes_1 : decode cX2_sortNotes 1 = .ok (.istore_n 2, 1) := by decide +kernel
theorem dX2_sortNotes_2 : decode cX2_sortNotes 2 = .ok (.iload_n 2, 1) := by decide +kernel
theorem dX2_sortNotes_3 : decode cX2_sortNotes 3 = .ok (.bipush 48, 2) := by decide +kernel
theorem dX2_sortNotes_5 : decode cX2_sortNotes 5 = .ok (.if_icmp .ge 23, 3) := by decide +kernel
theorem dX2_sortNotes_8 : decode cX2_sortNotes 8 = .ok (.aload_n 0, 1) := by decide +kernel
theorem dX2_sortNotes_9 : decode cX2_sortNotes 9 = .ok (.getfield 24, 3) := by decide +kernel
theorem dX2_sortNotes_12 : decode cX2_sortNotes 12 = .ok (.iload_n 2, 1) := by decide +kernel
theorem dX2_sortNotes_13 : decode cX2_sortNotes 13 = .ok (.iconst 0, 1) := by decide +kernel
theorem dX2_sortNotes_14 : decode cX2_sortNotes 14 = .ok (.iastore, 1) := by decide +kernel
theorem dX2_sortNotes_15 : decode cX2_sortNotes 15 = .ok (.aload_n 0, 1) := by decide +kernel
theorem dX2_sortNotes_16 : decode cX2_sortNotes 16 = .ok (.getfield 28, 3) := by decide +kernel
theorem dX2_sortNotes_19 : decode cX2_sortNotes 19 = .ok (.iload_n 2, 1) := by decide +kernel
theorem dX2_sortNotes_20 : decode cX2_sortNotes 20 = .ok (.iconst 0, 1) := by decide +kernel
theorem dX2_sortNotes_21 : decode cX2_sortNotes 21 = .ok (.iastore, 1) := by decide +kernel
theorem dX2_sortNotes_22 : decode cX2_sortNotes 22 = .ok (.iinc 2 1, 3) := by decide +kernel
theorem dX2_sortNotes_25 : decode cX2_sortNotes 25 = .ok (.goto (-23), 3) := by decide +kernel
theorem dX2_sortNotes_28 : decode cX2_sortNotes 28 = .ok (.aload_n 0, 1) := by decide +kernel
theorem dX2_sortNotes_29 : decode cX2_sortNotes 29 = .ok (.invokevirtual 67, 3) := by decide +kernel
theorem dX2_sortNotes_32 : decode cX2_sortNotes 32 = .ok (.iconst 0, 1) := by decide +kernel
theorem dX2_sortNotes_33 : decode cX2_sortNotes 33 = .ok (.istore_n 2, 1) := by decide +kernel
theorem dX2_sortNotes_34 : decode cX2_sortNotes 34 = .ok (.iload_n 2, 1) := by decide +kernel
theorem dX2_sortNotes_35 : decode cX2_sortNotes 35 = .ok (.aload_n 0, 1) := by decide +kernel
theorem dX2_sortNotes_36 : decode cX2_sortNotes 36 = .ok (.invokevirtual 70, 3) := by decide +kernel
theorem dX2_sortNotes_39 : decode cX2_sortNotes 39 = .ok (.if_icmp .ge 137, 3) := by decide +kernel
theorem dX2_sortNotes_42 : decode cX2_sortNotes 42 = .ok (.iload_n 2, 1) := by decide +kernel
theorem dX2_sortNotes_43 : decode cX2_sortNotes 43 = .ok (.bipush 24, 2) := by decide +kernel
theorem dX2_sortNotes_45 : decode cX2_sortNotes 45 = .ok (.if_icmp .ge 131, 3) := by decide +kernel
theorem dX2_sortNotes_48 : decode cX2_sortNotes 48 = .ok (.aload_n 0, 1) := by decide +kernel
theorem dX2_sortNotes_49 : decode cX2_sortNotes 49 = .ok (.getfield 16, 3) := by decide +kernel
theorem dX2_sortNotes_52 : decode cX2_sortNotes 52 = .ok (.iload_n 2, 1) := by decide +kernel
theorem dX2_sortNotes_53 : decode cX2_sortNotes 53 = .ok (.iconst 0, 1) := by decide +kernel
theorem dX2_sortNotes_54 : decode cX2_sortNotes 54 = .ok (.invokevirtual 74, 3) := by decide +kernel
theorem dX2_sortNotes_57 : decode cX2_sortNotes 57 = .ok (.istore_n 3, 1) := by decide +kernel
theorem dX2_sortNotes_58 : decode cX2_sortNotes 58 = .ok (.aload_n 0, 1) := by decide +kernel
theorem dX2_sortNotes_59 : decode cX2_sortNotes 59 = .ok (.getfield 16, 3) := by decide +kernel
theorem dX2_sortNotes_62 : decode cX2_sortNotes 62 = .ok (.iload_n 2, 1) := by decide +kernel
theorem dX2_sortNotes_63 : decode cX2_sortNotes 63 = .ok (.iconst 1, 1) := by decide +kernel
theorem dX2_sortNotes_64 : decode cX2_sortNotes 64 = .ok (.invokevirtual 74, 3) := by decide +kernel
theorem dX2_sortNotes_67 : decode cX2_sortNotes 67 = .ok (.istore 4, 2) := by decide +kernel
theorem dX2_sortNotes_69 : decode cX2_sortNotes 69 = .ok (.aload_n 0, 1) := by decide +kernel
theorem dX2_sortNotes_70 : decode cX2_sortNotes 70 = .ok (.getfield 16, 3) := by decide +kernel
theorem dX2_sortNotes_73 : decode cX2_sortNotes 73 = .ok (.iload_n 2, 1) := by decide +kernel
theorem dX2_sortNotes_74 : decode cX2_sortNotes 74 = .ok (.iconst 2, 1) := by decide +kernel
theorem dX2_sortNotes_75 : decode cX2_sortNotes 75 = .ok (.invokevirtual 74, 3) := by decide +kernel
theorem dX2_sortNotes_78 : decode cX2_sortNotes 78 = .ok (.istore 5, 2) := by decide +kernel
theorem dX2_sortNotes_80 : decode cX2_sortNotes 80 = .ok (.aload_n 0, 1) := by decide +kernel
theorem dX2_sortNotes_81 : decode cX2_sortNotes 81 = .ok (.getfield 20, 3) := by decide +kernel
theorem dX2_sortNotes_84 : decode cX2_sortNotes 84 = .ok (.iload_n 2, 1) := by decide +kernel
theorem dX2_sortNotes_85 : decode cX2_sortNotes 85 = .ok (.baload, 1) := by decide +kernel
theorem dX2_sortNotes_86 : decode cX2_sortNotes 86 = .ok (.ifCond .ne 84, 3) := by decide +kernel
theorem dX2_sortNotes_89 : decode cX2_sortNotes 89 = .ok (.iload_n 3, 1) := by decide +kernel
theorem dX2_sortNotes_90 : decode cX2_sortNotes 90 = .ok (.iconst 2, 1) := by decide +kernel
theorem dX2_sortNotes_91 : decode cX2_sortNotes 91 = .ok (.if_icmp .eq 79, 3) := by decide +kernel
theorem dX2_sortNotes_94 : decode cX2_sortNotes 94 = .ok (.iload 5, 2) := by decide +kernel
theorem dX2_sortNotes_96 : decode cX2_sortNotes 96 = .ok (.ifCond .lt 74, 3) := by decide +kernel
theorem dX2_sortNotes_99 : decode cX2_sortNotes 99 = .ok (.iload 5, 2) := by decide +kernel
theorem dX2_sortNotes_101 : decode cX2_sortNotes 101 = .ok (.bipush 48, 2) := by decide +kernel
theorem dX2_sortNotes_103 : decode cX2_sortNotes 103 = .ok (.if_icmp .lt 6, 3) := by decide +kernel
theorem dX2_sortNotes_106 : decode cX2_sortNotes 106 = .ok (.goto 64, 3) := by decide +kernel
theorem dX2_sortNotes_109 : decode cX2_sortNotes 109 = .ok (.aload_n 1, 1) := by decide +kernel
theorem dX2_sortNotes_110 : decode cX2_sortNotes 110 = .ok (.iload 4, 2) := by decide +kernel
theorem dX2_sortNotes_112 : decode cX2_sortNotes 112 = .ok (.iload 5, 2) := by decide +kernel
theorem dX2_sortNotes_114 : decode cX2_sortNotes 114 = .ok (.invokevirtual 78, 3) := by decide +kernel
theorem dX2_sortNotes_117 : decode cX2_sortNotes 117 = .ok (.istore 6, 2) := by decide +kernel
theorem dX2_sortNotes_119 : decode cX2_sortNotes 119 = .ok (.iload_n 3, 1) := by decide +kernel
theorem dX2_sortNotes_120 : decode cX2_sortNotes 120 = .ok (.ifCond .ne 10, 3) := by decide +kernel
theorem dX2_sortNotes_123 : decode cX2_sortNotes 123 = .ok (.iload 6, 2) := by decide +kernel
theorem dX2_sortNotes_125 : decode cX2_sortNotes 125 = .ok (.ifCond .ne 5, 3) := by decide +kernel
theorem dX2_sortNotes_128 : decode cX2_sortNotes 128 = .ok (.iconst 0, 1) := by decide +kernel
theorem dX2_sortNotes_129 : decode cX2_sortNotes 129 = .ok (.ireturn, 1) := by decide +kernel
theorem dX2_sortNotes_130 : decode cX2_sortNotes 130 = .ok (.iload_n 3, 1) := by decide +kernel
theorem dX2_sortNotes_131 : decode cX2_sortNotes 131 = .ok (.ifCond .ne 20, 3) := by decide +kernel
theorem dX2_sortNotes_134 : decode cX2_sortNotes 134 = .ok (.aload_n 0, 1) := by decide +kernel
theorem dX2_sortNotes_135 : decode cX2_sortNotes 135 = .ok (.getfield 28, 3) := by decide +kernel
theorem dX2_sortNotes_138 : decode cX2_sortNotes 138 = .ok (.iload 5, 2) := by decide +kernel
theorem dX2_sortNotes_140 : decode cX2_sortNotes 140 = .ok (.dup2, 1) := by decide +kernel
theorem dX2_sortNotes_141 : decode cX2_sortNotes 141 = .ok (.iaload, 1) := by decide +kernel
theorem dX2_sortNotes_142 : decode cX2_sortNotes 142 = .ok (.iconst 1, 1) := by decide +kernel
theorem dX2_sortNotes_143 : decode cX2_sortNotes 143 = .ok (.iload 4, 2) := by decide +kernel
theorem dX2_sortNotes_145 : decode cX2_sortNotes 145 = .ok (.ishl, 1) := by decide +kernel
theorem dX2_sortNotes_146 : decode cX2_sortNotes 146 = .ok (.ior, 1) := by decide +kernel
theorem dX2_sortNotes_147 : decode cX2_sortNotes 147 = .ok (.iastore, 1) := by decide +kernel
theorem dX2_sortNotes_148 : decode cX2_sortNotes 148 = .ok (.goto 22, 3) := by decide +kernel
theorem dX2_sortNotes_151 : decode cX2_sortNotes 151 = .ok (.iload 6, 2) := by decide +kernel
theorem dX2_sortNotes_153 : decode cX2_sortNotes 153 = .ok (.ifCond .eq 17, 3) := by decide +kernel
theorem dX2_sortNotes_156 : decode cX2_sortNotes 156 = .ok (.aload_n 0, 1) := by decide +kernel
theorem dX2_sortNotes_157 : decode cX2_sortNotes 157 = .ok (.getfield 24, 3) := by decide +kernel
theorem dX2_sortNotes_160 : decode cX2_sortNotes 160 = .ok (.iload 5, 2) := by decide +kernel
theorem dX2_sortNotes_162 : decode cX2_sortNotes 162 = .ok (.dup2, 1) := by decide +kernel
theorem dX2_sortNotes_163 : decode cX2_sortNotes 163 = .ok (.iaload, 1) := by decide +kernel
theorem dX2_sortNotes_164 : decode cX2_sortNotes 164 = .ok (.iconst 1, 1) := by decide +kernel
theorem dX2_sortNotes_165 : decode cX2_sortNotes 165 = .ok (.iload 4, 2) := by decide +kernel
theorem dX2_sortNotes_167 : decode cX2_sortNotes 167 = .ok (.ishl, 1) := by decide +kernel
theorem dX2_sortNotes_168 : decode cX2_sortNotes 168 = .ok (.ior, 1) := by decide +kernel
theorem dX2_sortNotes_169 : decode cX2_sortNotes 169 = .ok (.iastore, 1) := by decide +kernel
theorem dX2_sortNotes_170 : decode cX2_sortNotes 170 = .ok (.iinc 2 1, 3) := by decide +kernel
theorem dX2_sortNotes_173 : decode cX2_sortNotes 173 = .ok (.goto (-139), 3) := by decide +kernel
theorem dX2_sortNotes_176 : decode cX2_sortNotes 176 = .ok (.iconst 1, 1) := by decide +kernel
theorem dX2_sortNotes_177 : decode cX2_sortNotes 177 = .ok (.ireturn, 1) := by decide +kernel
theorem dX2_markStruck_0 : decode cX2_markStruck 0 = .ok (.iconst 0, 1) := by decide +kernel
theorem dX2_markStruck_1 : decode cX2_markStruck 1 = .ok (.istore_n 1, 1) := by decide +kernel
theorem dX2_markStruck_2 : decode cX2_markStruck 2 = .ok (.iload_n 1, 1) := by decide +kernel
theorem dX2_markStruck_3 : decode cX2_markStruck 3 = .ok (.bipush 24, 2) := by decide +kernel
theorem dX2_markStruck_5 : decode cX2_markStruck 5 = .ok (.if_icmp .ge 16, 3) := by decide +kernel
theorem dX2_markStruck_8 : decode cX2_markStruck 8 = .ok (.aload_n 0, 1) := by decide +kernel
theorem dX2_markStruck_9 : decode cX2_markStruck 9 = .ok (.getfield 20, 3) := by decide +kernel
theorem dX2_markStruck_12 : decode cX2_markStruck 12 = .ok (.iload_n 1, 1) := by decide +kernel
theorem dX2_markStruck_13 : decode cX2_markStruck 13 = .ok (.iconst 0, 1) := by decide +kernel
theorem dX2_markStruck_14 : decode cX2_markStruck 14 = .ok (.bastore, 1) := by decide +kernel
theorem dX2_markStruck_15 : decode cX2_markStruck 15 = .ok (.iinc 1 1, 3) := by decide +kernel
theorem dX2_markStruck_18 : decode cX2_markStruck 18 = .ok (.goto (-16), 3) := by decide +kernel
theorem dX2_markStruck_21 : decode cX2_markStruck 21 = .ok (.aload_n 0, 1) := by decide +kernel
theorem dX2_markStruck_22 : decode cX2_markStruck 22 = .ok (.invokevirtual 70, 3) := by decide +kernel
theorem dX2_markStruck_25 : decode cX2_markStruck 25 = .ok (.bipush 24, 2) := by decide +kernel
theorem dX2_markStruck_27 : decode cX2_markStruck 27 = .ok (.invokestatic 84, 3) := by decide +kernel
theorem dX2_markStruck_30 : decode cX2_markStruck 30 = .ok (.iconst 1, 1) := by decide +kernel
theorem dX2_markStruck_31 : decode cX2_markStruck 31 = .ok (.isub, 1) := by decide +kernel
theorem dX2_markStruck_32 : decode cX2_markStruck 32 = .ok (.istore_n 1, 1) := by decide +kernel
theorem dX2_markStruck_33 : decode cX2_markStruck 33 = .ok (.iload_n 1, 1) := by decide +kernel
theorem dX2_markStruck_34 : decode cX2_markStruck 34 = .ok (.ifCond .lt 58, 3) := by decide +kernel
theorem dX2_markStruck_37 : decode cX2_markStruck 37 = .ok (.aload_n 0, 1) := by decide +kernel
theorem dX2_markStruck_38 : decode cX2_markStruck 38 = .ok (.getfield 16, 3) := by decide +kernel
theorem dX2_markStruck_41 : decode cX2_markStruck 41 = .ok (.iload_n 1, 1) := by decide +kernel
theorem dX2_markStruck_42 : decode cX2_markStruck 42 = .ok (.iconst 1, 1) := by decide +kernel
theorem dX2_markStruck_43 : decode cX2_markStruck 43 = .ok (.invokevirtual 74, 3) := by decide +kernel
theorem dX2_markStruck_46 : decode cX2_markStruck 46 = .ok (.istore_n 2, 1) := by decide +kernel
theorem dX2_markStruck_47 : decode cX2_markStruck 47 = .ok (.aload_n 0, 1) := by decide +kernel
theorem dX2_markStruck_48 : decode cX2_markStruck 48 = .ok (.getfield 16, 3) := by decide +kernel
theorem dX2_markStruck_51 : decode cX2_markStruck 51 = .ok (.iload_n 1, 1) := by decide +kernel
theorem dX2_markStruck_52 : decode cX2_markStruck 52 = .ok (.iconst 0, 1) := by decide +kernel
theorem dX2_markStruck_53 : decode cX2_markStruck 53 = .ok (.invokevirtual 74, 3) := by decide +kernel
theorem dX2_markStruck_56 : decode cX2_markStruck 56 = .ok (.iconst 2, 1) := by decide +kernel
theorem dX2_markStruck_57 : decode cX2_markStruck 57 = .ok (.if_icmp .ne 29, 3) := by decide +kernel
theorem dX2_markStruck_60 : decode cX2_markStruck 60 = .ok (.aload_n 0, 1) := by decide +kernel
theorem dX2_markStruck_61 : decode cX2_markStruck 61 = .ok (.getfield 20, 3) := by decide +kernel
theorem dX2_markStruck_64 : decode cX2_markStruck 64 = .ok (.iload_n 1, 1) := by decide +kernel
theorem dX2_markStruck_65 : decode cX2_markStruck 65 = .ok (.baload, 1) := by decide +kernel
theorem dX2_markStruck_66 : decode cX2_markStruck 66 = .ok (.ifCond .ne 20, 3) := by decide +kernel
theorem dX2_markStruck_69 : decode cX2_markStruck 69 = .ok (.iload_n 2, 1) := by decide +kernel
theorem dX2_markStruck_70 : decode cX2_markStruck 70 = .ok (.ifCond .lt 16, 3) := by decide +kernel
theorem dX2_markStruck_73 : decode cX2_markStruck 73 = .ok (.iload_n 2, 1) := by decide +kernel
theorem dX2_markStruck_74 : decode cX2_markStruck 74 = .ok (.bipush 24, 2) := by decide +kernel
theorem dX2_markStruck_76 : decode cX2_markStruck 76 = .ok (.if_icmp .ge 10, 3) := by decide +kernel
theorem dX2_markStruck_79 : decode cX2_markStruck 79 = .ok (.aload_n 0, 1) := by decide +kernel
theorem dX2_markStruck_80 : decode cX2_markStruck 80 = .ok (.getfield 20, 3) := by decide +kernel
theorem dX2_markStruck_83 : decode cX2_markStruck 83 = .ok (.iload_n 2, 1) := by decide +kernel
theorem dX2_markStruck_84 : decode cX2_markStruck 84 = .ok (.iconst 1, 1) := by decide +kernel
theorem dX2_markStruck_85 : decode cX2_markStruck 85 = .ok (.bastore, 1) := by decide +kernel
theorem dX2_markStruck_86 : decode cX2_markStruck 86 = .ok (.iinc 1 (-1), 3) := by decide +kernel
theorem dX2_markStruck_89 : decode cX2_markStruck 89 = .ok (.goto (-56), 3) := by decide +kernel
theorem dX2_markStruck_92 : decode cX2_markStruck 92 = .ok (.return_, 1) := by decide +kernel
theorem dX2_fits_0 : decode cX2_fits 0 = .ok (.aload_n 0, 1) := by decide +kernel
theorem dX2_fits_1 : decode cX2_fits 1 = .ok (.getfield 24, 3) := by decide +kernel
theorem dX2_fits_4 : decode cX2_fits 4 = .ok (.iload 4, 2) := by decide +kernel
theorem dX2_fits_6 : decode cX2_fits 6 = .ok (.iaload, 1) := by decide +kernel
theorem dX2_fits_7 : decode cX2_fits 7 = .ok (.aload_n 0, 1) := by decide +kernel
theorem dX2_fits_8 : decode cX2_fits 8 = .ok (.getfield 28, 3) := by decide +kernel
theorem dX2_fits_11 : decode cX2_fits 11 = .ok (.iload 4, 2) := by decide +kernel
theorem dX2_fits_13 : decode cX2_fits 13 = .ok (.iaload, 1) := by decide +kernel
theorem dX2_fits_14 : decode cX2_fits 14 = .ok (.ior, 1) := by decide +kernel
theorem dX2_fits_15 : decode cX2_fits 15 = .ok (.istore 6, 2) := by decide +kernel
theorem dX2_fits_17 : decode cX2_fits 17 = .ok (.iconst 0, 1) := by decide +kernel
theorem dX2_fits_18 : decode cX2_fits 18 = .ok (.istore 7, 2) := by decide +kernel
theorem dX2_fits_20 : decode cX2_fits 20 = .ok (.iload 7, 2) := by decide +kernel
theorem dX2_fits_22 : decode cX2_fits 22 = .ok (.aload_n 1, 1) := by decide +kernel
theorem dX2_fits_23 : decode cX2_fits 23 = .ok (.getfield 45, 3) := by decide +kernel
theorem dX2_fits_26 : decode cX2_fits 26 = .ok (.getfield 38, 3) := by decide +kernel
theorem dX2_fits_29 : decode cX2_fits 29 = .ok (.if_icmp .ge 100, 3) := by decide +kernel
theorem dX2_fits_32 : decode cX2_fits 32 = .ok (.iload 6, 2) := by decide +kernel
theorem dX2_fits_34 : decode cX2_fits 34 = .ok (.ifCond .eq 95, 3) := by decide +kernel
theorem dX2_fits_37 : decode cX2_fits 37 = .ok (.iload 6, 2) := by decide +kernel
theorem dX2_fits_39 : decode cX2_fits 39 = .ok (.iload 7, 2) := by decide +kernel
theorem dX2_fits_41 : decode cX2_fits 41 = .ok (.ishr, 1) := by decide +kernel
theorem dX2_fits_42 : decode cX2_fits 42 = .ok (.iconst 1, 1) := by decide +kernel
theorem dX2_fits_43 : decode cX2_fits 43 = .ok (.iand, 1) := by decide +kernel
theorem dX2_fits_44 : decode cX2_fits 44 = .ok (.iconst 1, 1) := by decide +kernel
theorem dX2_fits_45 : decode cX2_fits 45 = .ok (.if_icmp .ne 78, 3) := by decide +kernel
theorem dX2_fits_48 : decode cX2_fits 48 = .ok (.aload_n 2, 1) := by decide +kernel
theorem dX2_fits_49 : decode cX2_fits 49 = .ok (.aload_n 1, 1) := by decide +kernel
theorem dX2_fits_50 : decode cX2_fits 50 = .ok (.iload_n 3, 1) := by decide +kernel
theorem dX2_fits_51 : decode cX2_fits 51 = .ok (.iload 4, 2) := by decide +kernel
theorem dX2_fits_53 : decode cX2_fits 53 = .ok (.iload 4, 2) := by decide +kernel
theorem dX2_fits_55 : decode cX2_fits 55 = .ok (.iload 5, 2) := by decide +kernel
theorem dX2_fits_57 : decode cX2_fits 57 = .ok (.iload 7, 2) := by decide +kernel
theorem dX2_fits_59 : decode cX2_fits 59 = .ok (.invokevirtual 89, 3) := by decide +kernel
theorem dX2_fits_62 : decode cX2_fits 62 = .ok (.lconst 0, 1) := by decide +kernel
theorem dX2_fits_63 : decode cX2_fits 63 = .ok (.lcmp, 1) := by decide +kernel
theorem dX2_fits_64 : decode cX2_fits 64 = .ok (.ifCond .eq 7, 3) := by decide +kernel
theorem dX2_fits_67 : decode cX2_fits 67 = .ok (.iconst 1, 1) := by decide +kernel
theorem dX2_fits_68 : decode cX2_fits 68 = .ok (.goto 4, 3) := by decide +kernel
theorem dX2_fits_71 : decode cX2_fits 71 = .ok (.iconst 0, 1) := by decide +kernel
theorem dX2_fits_72 : decode cX2_fits 72 = .ok (.istore 8, 2) := by decide +kernel
theorem dX2_fits_74 : decode cX2_fits 74 = .ok (.iload 8, 2) := by decide +kernel
theorem dX2_fits_76 : decode cX2_fits 76 = .ok (.aload_n 0, 1) := by decide +kernel
theorem dX2_fits_77 : decode cX2_fits 77 = .ok (.getfield 24, 3) := by decide +kernel
theorem dX2_fits_80 : decode cX2_fits 80 = .ok (.iload 4, 2) := by decide +kernel
theorem dX2_fits_82 : decode cX2_fits 82 = .ok (.iaload, 1) := by decide +kernel
theorem dX2_fits_83 : decode cX2_fits 83 = .ok (.iload 7, 2) := by decide +kernel
theorem dX2_fits_85 : decode cX2_fits 85 = .ok (.ishr, 1) := by decide +kernel
theorem dX2_fits_86 : decode cX2_fits 86 = .ok (.iconst 1, 1) := by decide +kernel
theorem dX2_fits_87 : decode cX2_fits 87 = .ok (.iand, 1) := by decide +kernel
theorem dX2_fits_88 : decode cX2_fits 88 = .ok (.iconst 1, 1) := by decide +kernel
theorem dX2_fits_89 : decode cX2_fits 89 = .ok (.if_icmp .ne 7, 3) := by decide +kernel
theorem dX2_fits_92 : decode cX2_fits 92 = .ok (.iconst 1, 1) := by decide +kernel
theorem dX2_fits_93 : decode cX2_fits 93 = .ok (.goto 4, 3) := by decide +kernel
theorem dX2_fits_96 : decode cX2_fits 96 = .ok (.iconst 0, 1) := by decide +kernel
theorem dX2_fits_97 : decode cX2_fits 97 = .ok (.if_icmp .ne 24, 3) := by decide +kernel
theorem dX2_fits_100 : decode cX2_fits 100 = .ok (.iload 8, 2) := by decide +kernel
theorem dX2_fits_102 : decode cX2_fits 102 = .ok (.ifCond .eq 21, 3) := by decide +kernel
theorem dX2_fits_105 : decode cX2_fits 105 = .ok (.aload_n 0, 1) := by decide +kernel
theorem dX2_fits_106 : decode cX2_fits 106 = .ok (.getfield 28, 3) := by decide +kernel
theorem dX2_fits_109 : decode cX2_fits 109 = .ok (.iload 4, 2) := by decide +kernel
theorem dX2_fits_111 : decode cX2_fits 111 = .ok (.iaload, 1) := by decide +kernel
theorem dX2_fits_112 : decode cX2_fits 112 = .ok (.iload 7, 2) := by decide +kernel
theorem dX2_fits_114 : decode cX2_fits 114 = .ok (.ishr, 1) := by decide +kernel
theorem dX2_fits_115 : decode cX2_fits 115 = .ok (.iconst 1, 1) := by decide +kernel
theorem dX2_fits_116 : decode cX2_fits 116 = .ok (.iand, 1) := by decide +kernel
theorem dX2_fits_117 : decode cX2_fits 117 = .ok (.iconst 1, 1) := by decide +kernel
theorem dX2_fits_118 : decode cX2_fits 118 = .ok (.if_icmp .ne 5, 3) := by decide +kernel
theorem dX2_fits_121 : decode cX2_fits 121 = .ok (.iconst 0, 1) := by decide +kernel
theorem dX2_fits_122 : decode cX2_fits 122 = .ok (.ireturn, 1) := by decide +kernel
theorem dX2_fits_123 : decode cX2_fits 123 = .ok (.iinc 7 1, 3) := by decide +kernel
theorem dX2_fits_126 : decode cX2_fits 126 = .ok (.goto (-106), 3) := by decide +kernel
theorem dX2_fits_129 : decode cX2_fits 129 = .ok (.iconst 1, 1) := by decide +kernel
theorem dX2_fits_130 : decode cX2_fits 130 = .ok (.ireturn, 1) := by decide +kernel
theorem dX3_init_0 : decode cX3_init 0 = .ok (.aload_n 0, 1) := by decide +kernel
theorem dX3_init_1 : decode cX3_init 1 = .ok (.invokespecial 3, 3) := by decide +kernel
theorem dX3_init_4 : decode cX3_init 4 = .ok (.aload_n 0, 1) := by decide +kernel
theorem dX3_init_5 : decode cX3_init 5 = .ok (.new 9, 3) := by decide +kernel
theorem dX3_init_8 : decode cX3_init 8 = .ok (.dup, 1) := by decide +kernel
theorem dX3_init_9 : decode cX3_init 9 = .ok (.iconst 4, 1) := by decide +kernel
theorem dX3_init_10 : decode cX3_init 10 = .ok (.sipush 144, 3) := by decide +kernel
theorem dX3_init_13 : decode cX3_init 13 = .ok (.invokespecial 13, 3) := by decide +kernel
theorem dX3_init_16 : decode cX3_init 16 = .ok (.putfield 16, 3) := by decide +kernel
theorem dX3_init_19 : decode cX3_init 19 = .ok (.aload_n 0, 1) := by decide +kernel
theorem dX3_init_20 : decode cX3_init 20 = .ok (.new 9, 3) := by decide +kernel
theorem dX3_init_23 : decode cX3_init 23 = .ok (.dup, 1) := by decide +kernel
theorem dX3_init_24 : decode cX3_init 24 = .ok (.bipush 6, 2) := by decide +kernel
theorem dX3_init_26 : decode cX3_init 26 = .ok (.sipush 144, 3) := by decide +kernel
theorem dX3_init_29 : decode cX3_init 29 = .ok (.invokespecial 13, 3) := by decide +kernel
theorem dX3_init_32 : decode cX3_init 32 = .ok (.putfield 20, 3) := by decide +kernel
theorem dX3_init_35 : decode cX3_init 35 = .ok (.aload_n 0, 1) := by decide +kernel
theorem dX3_init_36 : decode cX3_init 36 = .ok (.bipush 6, 2) := by decide +kernel
theorem dX3_init_38 : decode cX3_init 38 = .ok (.newarray .int, 2) := by decide +kernel
theorem dX3_init_40 : decode cX3_init 40 = .ok (.putfield 23, 3) := by decide +kernel
theorem dX3_init_43 : decode cX3_init 43 = .ok (.aload_n 0, 1) := by decide +kernel
theorem dX3_init_44 : decode cX3_init 44 = .ok (.sipush 144, 3) := by decide +kernel
theorem dX3_init_47 : decode cX3_init 47 = .ok (.newarray .int, 2) := by decide +kernel
theorem dX3_init_49 : decode cX3_init 49 = .ok (.putfield 27, 3) := by decide +kernel
theorem dX3_init_52 : decode cX3_init 52 = .ok (.aload_n 0, 1) := by decide +kernel
theorem dX3_init_53 : decode cX3_init 53 = .ok (.iconst 4, 1) := by decide +kernel
theorem dX3_init_54 : decode cX3_init 54 = .ok (.newarray .int, 2) := by decide +kernel
theorem dX3_init_56 : decode cX3_init 56 = .ok (.putfield 30, 3) := by decide +kernel
theorem dX3_init_59 : decode cX3_init 59 = .ok (.aload_n 0, 1) := by decide +kernel
theorem dX3_init_60 : decode cX3_init 60 = .ok (.iconst 4, 1) := by decide +kernel
theorem dX3_init_61 : decode cX3_init 61 = .ok (.newarray .int, 2) := by decide +kernel
theorem dX3_init_63 : decode cX3_init 63 = .ok (.putfield 33, 3) := by decide +kernel
theorem dX3_init_66 : decode cX3_init 66 = .ok (.aload_n 0, 1) := by decide +kernel
theorem dX3_init_67 : decode cX3_init 67 = .ok (.iconst 4, 1) := by decide +kernel
theorem dX3_init_68 : decode cX3_init 68 = .ok (.newarray .int, 2) := by decide +kernel
theorem dX3_init_70 : decode cX3_init 70 = .ok (.putfield 36, 3) := by decide +kernel
theorem dX3_init_73 : decode cX3_init 73 = .ok (.return_, 1) := by decide +kernel
theorem dX3_findSpans_0 : decode cX3_findSpans 0 = .ok (.aload_n 0, 1) := by decide +kernel
theorem dX3_findSpans_1 : decode cX3_findSpans 1 = .ok (.getfield 16, 3) := by decide +kernel
theorem dX3_findSpans_4 : decode cX3_findSpans 4 = .ok (.invokevirtual 39, 3) := by decide +kernel
theorem dX3_findSpans_7 : decode cX3_findSpans 7 = .ok (.iconst 0, 1) := by decide +kernel
theorem dX3_findSpans_8 : decode cX3_findSpans 8 = .ok (.istore_n 3, 1) := by decide +kernel
theorem dX3_findSpans_9 : decode cX3_findSpans 9 = .ok (.iload_n 3, 1) := by decide +kernel
theorem dX3_findSpans_10 : decode cX3_findSpans 10 = .ok (.aload_n 1, 1) := by decide +kernel
theorem dX3_findSpans_11 : decode cX3_findSpans 11 = .ok (.getfield 42, 3) := by decide +kernel
theorem dX3_findSpans_14 : decode cX3_findSpans 14 = .ok (.getfield 47, 3) := by decide +kernel
theorem dX3_findSpans_17 : decode cX3_findSpans 17 = .ok (.if_icmp .ge 101, 3) := by decide +kernel
theorem dX3_findSpans_20 : decode cX3_findSpans 20 = .ok (.iconst (-1), 1) := by decide +kernel
theorem dX3_findSpans_21 : decode cX3_findSpans 21 = .ok (.istore 4, 2) := by decide +kernel
theorem dX3_findSpans_23 : decode cX3_findSpans 23 = .ok (.iconst 0, 1) := by decide +kernel
theorem dX3_findSpans_24 : decode cX3_findSpans 24 = .ok (.istore 5, 2) := by decide +kernel
theorem dX3_findSpans_26 : decode cX3_findSpans 26 = .ok (.iload 5, 2) := by decide +kernel
theorem dX3_findSpans_28 : decode cX3_findSpans 28 = .ok (.bipush 48, 2) := by decide +kernel
theorem dX3_findSpans_30 : decode cX3_findSpans 30 = .ok (.if_icmp .gt 82, 3) := by decide +kernel
theorem dX3_findSpans_33 : decode cX3_findSpans 33 = .ok (.iload 5, 2) := by decide +kernel
theorem dX3_findSpans_35 : decode cX3_findSpans 35 = .ok (.bipush 48, 2) := by decide +kernel
theorem dX3_findSpans_37 : decode cX3_findSpans 37 = .ok (.if_icmp .ge 17, 3) := by decide +kernel
theorem dX3_findSpans_40 : decode cX3_findSpans 40 = .ok (.aload_n 2, 1) := by decide +kernel
theorem dX3_findSpans_41 : decode cX3_findSpans 41 = .ok (.iload_n 3, 1) := by decide +kernel
theorem dX3_findSpans_42 : decode cX3_findSpans 42 = .ok (.iload 5, 2) := by decide +kernel
theorem dX3_findSpans_44 : decode cX3_findSpans 44 = .ok (.invokevirtual 51, 3) := by decide +kernel
theorem dX3_findSpans_47 : decode cX3_findSpans 47 = .ok (.ifCond .eq 7, 3) := by decide +kernel
theorem dX3_findSpans_50 : decode cX3_findSpans 50 = .ok (.iconst 1, 1) := by decide +kernel
theorem dX3_findSpans_51 : decode cX3_findSpans 51 = .ok (.goto 4, 3) := by decide +kernel
theorem dX3_findSpans_54 : decode cX3_findSpans 54 = .ok (.iconst 0, 1) := by decide +kernel
theorem dX3_findSpans_55 : decode cX3_findSpans 55 = .ok (.istore 6, 2) := by decide +kernel
theorem dX3_findSpans_57 : decode cX3_findSpans 57 = .ok (.iload 6, 2) := by decide +kernel
theorem dX3_findSpans_59 : decode cX3_findSpans 59 = .ok (.ifCond .eq 16, 3) := by decide +kernel
theorem dX3_findSpans_62 : decode cX3_findSpans 62 = .ok (.iload 4, 2) := by decide +kernel
theorem dX3_findSpans_64 : decode cX3_findSpans 64 = .ok (.iconst (-1), 1) := by decide +kernel
theorem dX3_findSpans_65 : decode cX3_findSpans 65 = .ok (.if_icmp .ne 10, 3) := by decide +kernel
theorem dX3_findSpans_68 : decode cX3_findSpans 68 = .ok (.iload 5, 2) := by decide +kernel
theorem dX3_findSpans_70 : decode cX3_findSpans 70 = .ok (.istore 4, 2) := by decide +kernel
theorem dX3_findSpans_72 : decode cX3_findSpans 72 = .ok (.goto 34, 3) := by decide +kernel
theorem dX3_findSpans_75 : decode cX3_findSpans 75 = .ok (.iload 6, 2) := by decide +kernel
theorem dX3_findSpans_77 : decode cX3_findSpans 77 = .ok (.ifCond .ne 29, 3) := by decide +kernel
theorem dX3_findSpans_80 : decode cX3_findSpans 80 = .ok (.iload 4, 2) := by decide +kernel
theorem dX3_findSpans_82 : decode cX3_findSpans 82 = .ok (.iconst (-1), 1) := by decide +kernel
theorem dX3_findSpans_83 : decode cX3_findSpans 83 = .ok (.if_icmp .eq 23, 3) := by decide +kernel
theorem dX3_findSpans_86 : decode cX3_findSpans 86 = .ok (.aload_n 0, 1) := by decide +kernel
theorem dX3_findSpans_87 : decode cX3_findSpans 87 = .ok (.getfield 16, 3) := by decide +kernel
theorem dX3_findSpans_90 : decode cX3_findSpans 90 = .ok (.iload_n 3, 1) := by decide +kernel
theorem dX3_findSpans_91 : decode cX3_findSpans 91 = .ok (.iload 4, 2) := by decide +kernel
theorem dX3_findSpans_93 : decode cX3_findSpans 93 = .ok (.iload 5, 2) := by decide +kernel
theorem dX3_findSpans_95 : decode cX3_findSpans 95 = .ok (.iconst 1, 1) := by decide +kernel
theorem dX3_findSpans_96 : decode cX3_findSpans 96 = .ok (.isub, 1) := by decide +kernel
theorem dX3_findSpans_97 : decode cX3_findSpans 97 = .ok (.iconst (-1), 1) := by decide +kernel
theorem dX3_findSpans_98 : decode cX3_findSpans 98 = .ok (.iconst 0, 1) := by decide +kernel
theorem dX3_findSpans_99 : decode cX3_findSpans 99 = .ok (.invokevirtual 57, 3) := by decide +kernel
theorem dX3_findSpans_102 : decode cX3_findSpans 102 = .ok (.pop, 1) := by decide +kernel
theorem dX3_findSpans_103 : decode cX3_findSpans 103 = .ok (.iconst (-1), 1) := by decide +kernel
theorem dX3_findSpans_104 : decode cX3_findSpans 104 = .ok (.istore 4, 2) := by decide +kernel
theorem dX3_findSpans_106 : decode cX3_findSpans 106 = .ok (.iinc 5 1, 3) := by decide +kernel
theorem dX3_findSpans_109 : decode cX3_findSpans 109 = .ok (.goto (-83), 3) := by decide +kernel
theorem dX3_findSpans_112 : decode cX3_findSpans 112 = .ok (.iinc 3 1, 3) := by decide +kernel
theorem dX3_findSpans_115 : decode cX3_findSpans 115 = .ok (.goto (-106), 3) := by decide +kernel
theorem dX3_findSpans_118 : decode cX3_findSpans 118 = .ok (.return_, 1) := by decide +kernel
theorem dX3_joinSpans_0 : decode cX3_joinSpans 0 = .ok (.iconst 0, 1) := by decide +kernel
theorem dX3_joinSpans_1 : decode cX3_joinSpans 1 = .ok (.istore_n 2, 1) := by decide +kernel
theorem dX3_joinSpans_2 : decode cX3_joinSpans 2 = .ok (.iload_n 2, 1) := by decide +kernel
theorem dX3_joinSpans_3 : decode cX3_joinSpans 3 = .ok (.bipush 6, 2) := by decide +kernel
theorem dX3_joinSpans_5 : decode cX3_joinSpans 5 = .ok (.if_icmp .ge 16, 3) := by decide +kernel
theorem dX3_joinSpans_8 : decode cX3_joinSpans 8 = .ok (.aload_n 0, 1) := by decide +kernel
theorem dX3_joinSpans_9 : decode cX3_joinSpans 9 = .ok (.getfield 23, 3) := by decide +kernel
theorem dX3_joinSpans_12 : decode cX3_joinSpans 12 = .ok (.iload_n 2, 1) := by decide +kernel
theorem dX3_joinSpans_13 : decode cX3_joinSpans 13 = .ok (.iconst 0, 1) := by decide +kernel
theorem dX3_joinSpans_14 : decode cX3_joinSpans 14 = .ok (.iastore, 1) := by decide +kernel
theorem dX3_joinSpans_15 : decode cX3_joinSpans 15 = .ok (.iinc 2 1, 3) := by decide +kernel
theorem dX3_joinSpans_18 : decode cX3_joinSpans 18 = .ok (.goto (-16), 3) := by decide +kernel
theorem dX3_joinSpans_21 : decode cX3_joinSpans 21 = .ok (.iconst 0, 1) := by decide +kernel
theorem dX3_joinSpans_22 : decode cX3_joinSpans 22 = .ok (.istore_n 2, 1) := by decide +kernel
theorem dX3_joinSpans_23 : decode cX3_joinSpans 23 = .ok (.iload_n 2, 1) := by decide +kernel
theorem dX3_joinSpans_24 : decode cX3_joinSpans 24 = .ok (.aload_n 1, 1) := by decide +kernel
theorem dX3_joinSpans_25 : decode cX3_joinSpans 25 = .ok (.getfield 61, 3) := by decide +kernel
theorem dX3_joinSpans_28 : decode cX3_joinSpans 28 = .ok (.getfield 47, 3) := by decide +kernel
theorem dX3_joinSpans_31 : decode cX3_joinSpans 31 = .ok (.if_icmp .ge 91, 3) := by decide +kernel
theorem dX3_joinSpans_34 : decode cX3_joinSpans 34 = .ok (.aload_n 1, 1) := by decide +kernel
theorem dX3_joinSpans_35 : decode cX3_joinSpans 35 = .ok (.getfield 61, 3) := by decide +kernel
theorem dX3_joinSpans_38 : decode cX3_joinSpans 38 = .ok (.iload_n 2, 1) := by decide +kernel
theorem dX3_joinSpans_39 : decode cX3_joinSpans 39 = .ok (.iconst 0, 1) := by decide +kernel
theorem dX3_joinSpans_40 : decode cX3_joinSpans 40 = .ok (.invokevirtual 64, 3) := by decide +kernel
theorem dX3_joinSpans_43 : decode cX3_joinSpans 43 = .ok (.istore_n 3, 1) := by decide +kernel
theorem dX3_joinSpans_44 : decode cX3_joinSpans 44 = .ok (.aload_n 1, 1) := by decide +kernel
theorem dX3_joinSpans_45 : decode cX3_joinSpans 45 = .ok (.getfield 61, 3) := by decide +kernel
theorem dX3_joinSpans_48 : decode cX3_joinSpans 48 = .ok (.iload_n 2, 1) := by decide +kernel
theorem dX3_joinSpans_49 : decode cX3_joinSpans 49 = .ok (.iconst 1, 1) := by decide +kernel
theorem dX3_joinSpans_50 : decode cX3_joinSpans 50 = .ok (.invokevirtual 64, 3) := by decide +kernel
theorem dX3_joinSpans_53 : decode cX3_joinSpans 53 = .ok (.istore 4, 2) := by decide +kernel
theorem dX3_joinSpans_55 : decode cX3_joinSpans 55 = .ok (.aload_n 1, 1) := by decide +kernel
theorem dX3_joinSpans_56 : decode cX3_joinSpans 56 = .ok (.getfield 61, 3) := by decide +kernel
theorem dX3_joinSpans_59 : decode cX3_joinSpans 59 = .ok (.iload_n 2, 1) := by decide +kernel
theorem dX3_joinSpans_60 : decode cX3_joinSpans 60 = .ok (.iconst 3, 1) := by decide +kernel
theorem dX3_joinSpans_61 : decode cX3_joinSpans 61 = .ok (.invokevirtual 64, 3) := by decide +kernel
theorem dX3_joinSpans_64 : decode cX3_joinSpans 64 = .ok (.ifCond .ne 52, 3) := by decide +kernel
theorem dX3_joinSpans_67 : decode cX3_joinSpans 67 = .ok (.aload_n 1, 1) := by decide +kernel
theorem dX3_joinSpans_68 : decode cX3_joinSpans 68 = .ok (.getfield 42, 3) := by decide +kernel
theorem dX3_joinSpans_71 : decode cX3_joinSpans 71 = .ok (.iload_n 3, 1) := by decide +kernel
theorem dX3_joinSpans_72 : decode cX3_joinSpans 72 = .ok (.invokevirtual 68, 3) := by decide +kernel
theorem dX3_joinSpans_75 : decode cX3_joinSpans 75 = .ok (.ifCond .eq 41, 3) := by decide +kernel
theorem dX3_joinSpans_78 : decode cX3_joinSpans 78 = .ok (.aload_n 1, 1) := by decide +kernel
theorem dX3_joinSpans_79 : decode cX3_joinSpans 79 = .ok (.getfield 42, 3) := by decide +kernel
theorem dX3_joinSpans_82 : decode cX3_joinSpans 82 = .ok (.iload 4, 2) := by decide +kernel
theorem dX3_joinSpans_84 : decode cX3_joinSpans 84 = .ok (.invokevirtual 68, 3) := by decide +kernel
theorem dX3_joinSpans_87 : decode cX3_joinSpans 87 = .ok (.ifCond .eq 29, 3) := by decide +kernel
theorem dX3_joinSpans_90 : decode cX3_joinSpans 90 = .ok (.aload_n 0, 1) := by decide +kernel
theorem dX3_joinSpans_91 : decode cX3_joinSpans 91 = .ok (.getfield 23, 3) := by decide +kernel
theorem dX3_joinSpans_94 : decode cX3_joinSpans 94 = .ok (.iload_n 3, 1) := by decide +kernel
theorem dX3_joinSpans_95 : decode cX3_joinSpans 95 = .ok (.dup2, 1) := by decide +kernel
theorem dX3_joinSpans_96 : decode cX3_joinSpans 96 = .ok (.iaload, 1) := by decide +kernel
theorem dX3_joinSpans_97 : decode cX3_joinSpans 97 = .ok (.iconst 1, 1) := by decide +kernel
theorem dX3_joinSpans_98 : decode cX3_joinSpans 98 = .ok (.iload 4, 2) := by decide +kernel
theorem dX3_joinSpans_100 : decode cX3_joinSpans 100 = .ok (.ishl, 1) := by decide +kernel
theorem dX3_joinSpans_101 : decode cX3_joinSpans 101 = .ok (.ior, 1) := by decide +kernel
theorem dX3_joinSpans_102 : decode cX3_joinSpans 102 = .ok (.iastore, 1) := by decide +kernel
theorem dX3_joinSpans_103 : decode cX3_joinSpans 103 = .ok (.aload_n 0, 1) := by decide +kernel
theorem dX3_joinSpans_104 : decode cX3_joinSpans 104 = .ok (.getfield 23, 3) := by decide +kernel
theorem dX3_joinSpans_107 : decode cX3_joinSpans 107 = .ok (.iload 4, 2) := by decide +kernel
theorem dX3_joinSpans_109 : decode cX3_joinSpans 109 = .ok (.dup2, 1) := by decide +kernel
theorem dX3_joinSpans_110 : decode cX3_joinSpans 110 = .ok (.iaload, 1) := by decide +kernel
theorem dX3_joinSpans_111 : decode cX3_joinSpans 111 = .ok (.iconst 1, 1) := by decide +kernel
theorem dX3_joinSpans_112 : decode cX3_joinSpans 112 = .ok (.iload_n 3, 1) := by decide +kernel
theorem dX3_joinSpans_113 : decode cX3_joinSpans 113 = .ok (.ishl, 1) := by decide +kernel
theorem dX3_joinSpans_114 : decode cX3_joinSpans 114 = .ok (.ior, 1) := by decide +kernel
theorem dX3_joinSpans_115 : decode cX3_joinSpans 115 = .ok (.iastore, 1) := by decide +kernel
theorem dX3_joinSpans_116 : decode cX3_joinSpans 116 = .ok (.iinc 2 1, 3) := by decide +kernel
theorem dX3_joinSpans_119 : decode cX3_joinSpans 119 = .ok (.goto (-96), 3) := by decide +kernel
theorem dX3_joinSpans_122 : decode cX3_joinSpans 122 = .ok (.aload_n 0, 1) := by decide +kernel
theorem dX3_joinSpans_123 : decode cX3_joinSpans 123 = .ok (.getfield 20, 3) := by decide +kernel
theorem dX3_joinSpans_126 : decode cX3_joinSpans 126 = .ok (.invokevirtual 39, 3) := by decide +kernel
theorem dX3_joinSpans_129 : decode cX3_joinSpans 129 = .ok (.iconst 0, 1) := by decide +kernel
theorem dX3_joinSpans_130 : decode cX3_joinSpans 130 = .ok (.istore_n 2, 1) := by decide +kernel
theorem dX3_joinSpans_131 : decode cX3_joinSpans 131 = .ok (.iload_n 2, 1) := by decide +kernel
theorem dX3_joinSpans_132 : decode cX3_joinSpans 132 = .ok (.aload_n 0, 1) := by decide +kernel
theorem dX3_joinSpans_133 : decode cX3_joinSpans 133 = .ok (.getfield 16, 3) := by decide +kernel
theorem dX3_joinSpans_136 : decode cX3_joinSpans 136 = .ok (.getfield 47, 3) := by decide +kernel
theorem dX3_joinSpans_139 : decode cX3_joinSpans 139 = .ok (.if_icmp .ge 39, 3) := by decide +kernel
theorem dX3_joinSpans_142 : decode cX3_joinSpans 142 = .ok (.aload_n 0, 1) := by decide +kernel
theorem dX3_joinSpans_143 : decode cX3_joinSpans 143 = .ok (.getfield 16, 3) := by decide +kernel
theorem dX3_joinSpans_146 : decode cX3_joinSpans 146 = .ok (.iload_n 2, 1) := by decide +kernel
theorem dX3_joinSpans_147 : decode cX3_joinSpans 147 = .ok (.iconst 3, 1) := by decide +kernel
theorem dX3_joinSpans_148 : decode cX3_joinSpans 148 = .ok (.invokevirtual 64, 3) := by decide +kernel
theorem dX3_joinSpans_151 : decode cX3_joinSpans 151 = .ok (.iconst (-1), 1) := by decide +kernel
theorem dX3_joinSpans_152 : decode cX3_joinSpans 152 = .ok (.if_icmp .ne 20, 3) := by decide +kernel
theorem dX3_joinSpans_155 : decode cX3_joinSpans 155 = .ok (.aload_n 0, 1) := by decide +kernel
theorem dX3_joinSpans_156 : decode cX3_joinSpans 156 = .ok (.iload_n 2, 1) := by decide +kernel
theorem dX3_joinSpans_157 : decode cX3_joinSpans 157 = .ok (.aload_n 0, 1) := by decide +kernel
theorem dX3_joinSpans_158 : decode cX3_joinSpans 158 = .ok (.getfield 20, 3) := by decide +kernel
theorem dX3_joinSpans_161 : decode cX3_joinSpans 161 = .ok (.iconst 0, 1) := by decide +kernel
theorem dX3_joinSpans_162 : decode cX3_joinSpans 162 = .ok (.iconst 0, 1) := by decide +kernel
theorem dX3_joinSpans_163 : decode cX3_joinSpans 163 = .ok (.iconst 0, 1) := by decide +kernel
theorem dX3_joinSpans_164 : decode cX3_joinSpans 164 = .ok (.iconst 0, 1) := by decide +kernel
theorem dX3_joinSpans_165 : decode cX3_joinSpans 165 = .ok (.iconst 0, 1) := by decide +kernel
theorem dX3_joinSpans_166 : decode cX3_joinSpans 166 = .ok (.invokevirtual 57, 3) := by decide +kernel
theorem dX3_joinSpans_169 : decode cX3_joinSpans 169 = .ok (.invokevirtual 72, 3) := by decide +kernel
theorem dX3_joinSpans_172 : decode cX3_joinSpans 172 = .ok (.iinc 2 1, 3) := by decide +kernel
theorem dX3_joinSpans_175 : decode cX3_joinSpans 175 = .ok (.goto (-44), 3) := by decide +kernel
theorem dX3_joinSpans_178 : decode cX3_joinSpans 178 = .ok (.return_, 1) := by decide +kernel
theorem dX3_spread_0 : decode cX3_spread 0 = .ok (.iconst 0, 1) := by decide +kernel
theorem dX3_spread_1 : decode cX3_spread 1 = .ok (.istore_n 3, 1) := by decide +kernel
theorem dX3_spread_2 : decode cX3_spread 2 = .ok (.aload_n 0, 1) := by decide +kernel
theorem dX3_spread_3 : decode cX3_spread 3 = .ok (.getfield 27, 3) := by decide +kernel
theorem dX3_spread_6 : decode cX3_spread 6 = .ok (.iload_n 3, 1) := by decide +kernel
theorem dX3_spread_7 : decode cX3_spread 7 = .ok (.iinc 3 1, 3) := by decide +kernel
theorem dX3_spread_10 : decode cX3_spread 10 = .ok (.iload_n 1, 1) := by decide +kernel
theorem dX3_spread_11 : decode cX3_spread 11 = .ok (.iastore, 1) := by decide +kernel
theorem dX3_spread_12 : decode cX3_spread 12 = .ok (.aload_n 0, 1) := by decide +kernel
theorem dX3_spread_13 : decode cX3_spread 13 = .ok (.getfield 16, 3) := by decide +kernel
theorem dX3_spread_16 : decode cX3_spread 16 = .ok (.iload_n 1, 1) := by decide +kernel
theorem dX3_spread_17 : decode cX3_spread 17 = .ok (.iconst 3, 1) := by decide +kernel
theorem dX3_spread_18 : decode cX3_spread 18 = .ok (.iload_n 2, 1) := by decide +kernel
theorem dX3_spread_19 : decode cX3_spread 19 = .ok (.invokevirtual 75, 3) := by decide +kernel
theorem dX3_spread_22 : decode cX3_spread 22 = .ok (.iconst 0, 1) := by decide +kernel
theorem dX3_spread_23 : decode cX3_spread 23 = .ok (.istore 4, 2) := by decide +kernel
theorem dX3_spread_25 : decode cX3_spread 25 = .ok (.iload 4, 2) := by decide +kernel
theorem dX3_spread_27 : decode cX3_spread 27 = .ok (.iload_n 3, 1) := by decide +kernel
theorem dX3_spread_28 : decode cX3_spread 28 = .ok (.if_icmp .ge 99, 3) := by decide +kernel
theorem dX3_spread_31 : decode cX3_spread 31 = .ok (.iload 4, 2) := by decide +kernel
theorem dX3_spread_33 : decode cX3_spread 33 = .ok (.sipush 144, 3) := by decide +kernel
theorem dX3_spread_36 : decode cX3_spread 36 = .ok (.if_icmp .ge 91, 3) := by decide +kernel
theorem dX3_spread_39 : decode cX3_spread 39 = .ok (.iload_n 1, 1) := by decide +kernel
theorem dX3_spread_40 : decode cX3_spread 40 = .ok (.iconst 1, 1) := by decide +kernel
theorem dX3_spread_41 : decode cX3_spread 41 = .ok (.iadd, 1) := by decide +kernel
theorem dX3_spread_42 : decode cX3_spread 42 = .ok (.istore 5, 2) := by decide +kernel
theorem dX3_spread_44 : decode cX3_spread 44 = .ok (.iload 5, 2) := by decide +kernel
theorem dX3_spread_46 : decode cX3_spread 46 = .ok (.aload_n 0, 1) := by decide +kernel
theorem dX3_spread_47 : decode cX3_spread 47 = .ok (.getfield 16, 3) := by decide +kernel
theorem dX3_spread_50 : decode cX3_spread 50 = .ok (.getfield 47, 3) := by decide +kernel
theorem dX3_spread_53 : decode cX3_spread 53 = .ok (.if_icmp .ge 68, 3) := by decide +kernel
theorem dX3_spread_56 : decode cX3_spread 56 = .ok (.iload_n 3, 1) := by decide +kernel
theorem dX3_spread_57 : decode cX3_spread 57 = .ok (.sipush 144, 3) := by decide +kernel
theorem dX3_spread_60 : decode cX3_spread 60 = .ok (.if_icmp .ge 61, 3) := by decide +kernel
theorem dX3_spread_63 : decode cX3_spread 63 = .ok (.aload_n 0, 1) := by decide +kernel
theorem dX3_spread_64 : decode cX3_spread 64 = .ok (.getfield 16, 3) := by decide +kernel
theorem dX3_spread_67 : decode cX3_spread 67 = .ok (.iload 5, 2) := by decide +kernel
theorem dX3_spread_69 : decode cX3_spread 69 = .ok (.iconst 3, 1) := by decide +kernel
theorem dX3_spread_70 : decode cX3_spread 70 = .ok (.invokevirtual 64, 3) := by decide +kernel
theorem dX3_spread_73 : decode cX3_spread 73 = .ok (.iconst (-1), 1) := by decide +kernel
theorem dX3_spread_74 : decode cX3_spread 74 = .ok (.if_icmp .ne 41, 3) := by decide +kernel
theorem dX3_spread_77 : decode cX3_spread 77 = .ok (.aload_n 0, 1) := by decide +kernel
theorem dX3_spread_78 : decode cX3_spread 78 = .ok (.aload_n 0, 1) := by decide +kernel
theorem dX3_spread_79 : decode cX3_spread 79 = .ok (.getfield 27, 3) := by decide +kernel
theorem dX3_spread_82 : decode cX3_spread 82 = .ok (.iload 4, 2) := by decide +kernel
theorem dX3_spread_84 : decode cX3_spread 84 = .ok (.iaload, 1) := by decide +kernel
theorem dX3_spread_85 : decode cX3_spread 85 = .ok (.iload 5, 2) := by decide +kernel
theorem dX3_spread_87 : decode cX3_spread 87 = .ok (.invokevirtual 79, 3) := by decide +kernel
theorem dX3_spread_90 : decode cX3_spread 90 = .ok (.ifCond .eq 25, 3) := by decide +kernel
theorem dX3_spread_93 : decode cX3_spread 93 = .ok (.aload_n 0, 1) := by decide +kernel
theorem dX3_spread_94 : decode cX3_spread 94 = .ok (.getfield 16, 3) := by decide +kernel
theorem dX3_spread_97 : decode cX3_spread 97 = .ok (.iload 5, 2) := by decide +kernel
theorem dX3_spread_99 : decode cX3_spread 99 = .ok (.iconst 3, 1) := by decide +kernel
theorem dX3_spread_100 : decode cX3_spread 100 = .ok (.iload_n 2, 1) := by decide +kernel
theorem dX3_spread_101 : decode cX3_spread 101 = .ok (.invokevirtual 75, 3) := by decide +kernel
theorem dX3_spread_104 : decode cX3_spread 104 = .ok (.aload_n 0, 1) := by decide +kernel
theorem dX3_spread_105 : decode cX3_spread 105 = .ok (.getfield 27, 3) := by decide +kernel
theorem dX3_spread_108 : decode cX3_spread 108 = .ok (.iload_n 3, 1) := by decide +kernel
theorem dX3_spread_109 : decode cX3_spread 109 = .ok (.iinc 3 1, 3) := by decide +kernel
theorem dX3_spread_112 : decode cX3_spread 112 = .ok (.iload 5, 2) := by decide +kernel
theorem dX3_spread_114 : decode cX3_spread 114 = .ok (.iastore, 1) := by decide +kernel
theorem dX3_spread_115 : decode cX3_spread 115 = .ok (.iinc 5 1, 3) := by decide +kernel
theorem dX3_spread_118 : decode cX3_spread 118 = .ok (.goto (-74), 3) := by decide +kernel
theorem dX3_spread_121 : decode cX3_spread 121 = .ok (.iinc 4 1, 3) := by decide +kernel
theorem dX3_spread_124 : decode cX3_spread 124 = .ok (.goto (-99), 3) := by decide +kernel
theorem dX3_spread_127 : decode cX3_spread 127 = .ok (.return_, 1) := by decide +kernel
theorem dX3_touch_0 : decode cX3_touch 0 = .ok (.aload_n 0, 1) := by decide +kernel
theorem dX3_touch_1 : decode cX3_touch 1 = .ok (.getfield 16, 3) := by decide +kernel
theorem dX3_touch_4 : decode cX3_touch 4 = .ok (.iload_n 1, 1) := by decide +kernel
theorem dX3_touch_5 : decode cX3_touch 5 = .ok (.iconst 0, 1) := by decide +kernel
theorem dX3_touch_6 : decode cX3_touch 6 = .ok (.invokevirtual 64, 3) := by decide +kernel
theorem dX3_touch_9 : decode cX3_touch 9 = .ok (.istore_n 3, 1) := by decide +kernel
theorem dX3_touch_10 : decode cX3_touch 10 = .ok (.iload_n 3, 1) := by decide +kernel
theorem dX3_touch_11 : decode cX3_touch 11 = .ok (.ifCond .lt 77, 3) := by decide +kernel
theorem dX3_touch_14 : decode cX3_touch 14 = .ok (.iload_n 3, 1) := by decide +kernel
theorem dX3_touch_15 : decode cX3_touch 15 = .ok (.bipush 6, 2) := by decide +kernel
theorem dX3_touch_17 : decode cX3_touch 17 = .ok (.if_icmp .ge 71, 3) := by decide +kernel
theorem dX3_touch_20 : decode cX3_touch 20 = .ok (.aload_n 0, 1) := by decide +kernel
theorem dX3_touch_21 : decode cX3_touch 21 = .ok (.getfield 23, 3) := by decide +kernel
theorem dX3_touch_24 : decode cX3_touch 24 = .ok (.iload_n 3, 1) := by decide +kernel
theorem dX3_touch_25 : decode cX3_touch 25 = .ok (.iaload, 1) := by decide +kernel
theorem dX3_touch_26 : decode cX3_touch 26 = .ok (.aload_n 0, 1) := by decide +kernel
theorem dX3_touch_27 : decode cX3_touch 27 = .ok (.getfield 16, 3) := by decide +kernel
theorem dX3_touch_30 : decode cX3_touch 30 = .ok (.iload_n 2, 1) := by decide +kernel
theorem dX3_touch_31 : decode cX3_touch 31 = .ok (.iconst 0, 1) := by decide +kernel
theorem dX3_touch_32 : decode cX3_touch 32 = .ok (.invokevirtual 64, 3) := by decide +kernel
theorem dX3_touch_35 : decode cX3_touch 35 = .ok (.ishr, 1) := by decide +kernel
theorem dX3_touch_36 : decode cX3_touch 36 = .ok (.iconst 1, 1) := by decide +kernel
theorem dX3_touch_37 : decode cX3_touch 37 = .ok (.iand, 1) := by decide +kernel
theorem dX3_touch_38 : decode cX3_touch 38 = .ok (.iconst 1, 1) := by decide +kernel
theorem dX3_touch_39 : decode cX3_touch 39 = .ok (.if_icmp .ne 49, 3) := by decide +kernel
theorem dX3_touch_42 : decode cX3_touch 42 = .ok (.aload_n 0, 1) := by decide +kernel
theorem dX3_touch_43 : decode cX3_touch 43 = .ok (.getfield 16, 3) := by decide +kernel
theorem dX3_touch_46 : decode cX3_touch 46 = .ok (.iload_n 1, 1) := by decide +kernel
theorem dX3_touch_47 : decode cX3_touch 47 = .ok (.iconst 1, 1) := by decide +kernel
theorem dX3_touch_48 : decode cX3_touch 48 = .ok (.invokevirtual 64, 3) := by decide +kernel
theorem dX3_touch_51 : decode cX3_touch 51 = .ok (.aload_n 0, 1) := by decide +kernel
theorem dX3_touch_52 : decode cX3_touch 52 = .ok (.getfield 16, 3) := by decide +kernel
theorem dX3_touch_55 : decode cX3_touch 55 = .ok (.iload_n 2, 1) := by decide +kernel
theorem dX3_touch_56 : decode cX3_touch 56 = .ok (.iconst 2, 1) := by decide +kernel
theorem dX3_touch_57 : decode cX3_touch 57 = .ok (.invokevirtual 64, 3) := by decide +kernel
theorem dX3_touch_60 : decode cX3_touch 60 = .ok (.if_icmp .gt 28, 3) := by decide +kernel
theorem dX3_touch_63 : decode cX3_touch 63 = .ok (.aload_n 0, 1) := by decide +kernel
theorem dX3_touch_64 : decode cX3_touch 64 = .ok (.getfield 16, 3) := by decide +kernel
theorem dX3_touch_67 : decode cX3_touch 67 = .ok (.iload_n 2, 1) := by decide +kernel
theorem dX3_touch_68 : decode cX3_touch 68 = .ok (.iconst 1, 1) := by decide +kernel
theorem dX3_touch_69 : decode cX3_touch 69 = .ok (.invokevirtual 64, 3) := by decide +kernel
theorem dX3_touch_72 : decode cX3_touch 72 = .ok (.aload_n 0, 1) := by decide +kernel
theorem dX3_touch_73 : decode cX3_touch 73 = .ok (.getfield 16, 3) := by decide +kernel
theorem dX3_touch_76 : decode cX3_touch 76 = .ok (.iload_n 1, 1) := by decide +kernel
theorem dX3_touch_77 : decode cX3_touch 77 = .ok (.iconst 2, 1) := by decide +kernel
theorem dX3_touch_78 : decode cX3_touch 78 = .ok (.invokevirtual 64, 3) := by decide +kernel
theorem dX3_touch_81 : decode cX3_touch 81 = .ok (.if_icmp .gt 7, 3) := by decide +kernel
theorem dX3_touch_84 : decode cX3_touch 84 = .ok (.iconst 1, 1) := by decide +kernel
theorem dX3_touch_85 : decode cX3_touch 85 = .ok (.goto 4, 3) := by decide +kernel
theorem dX3_touch_88 : decode cX3_touch 88 = .ok (.iconst 0, 1) := by decide +kernel
theorem dX3_touch_89 : decode cX3_touch 89 = .ok (.ireturn, 1) := by decide +kernel
theorem dX3_weigh_0 : decode cX3_weigh 0 = .ok (.iconst 0, 1) := by decide +kernel
theorem dX3_weigh_1 : decode cX3_weigh 1 = .ok (.istore_n 3, 1) := by decide +kernel
theorem dX3_weigh_2 : decode cX3_weigh 2 = .ok (.iload_n 3, 1) := by decide +kernel
theorem dX3_weigh_3 : decode cX3_weigh 3 = .ok (.aload_n 0, 1) := by decide +kernel
theorem dX3_weigh_4 : decode cX3_weigh 4 = .ok (.getfield 20, 3) := by decide +kernel
theorem dX3_weigh_7 : decode cX3_weigh 7 = .ok (.getfield 47, 3) := by decide +kernel
theorem dX3_weigh_10 : decode cX3_weigh 10 = .ok (.if_icmp .ge 223, 3) := by decide +kernel
theorem dX3_weigh_13 : decode cX3_weigh 13 = .ok (.aload_n 0, 1) := by decide +kernel
theorem dX3_weigh_14 : decode cX3_weigh 14 = .ok (.aload_n 2, 1) := by decide +kernel
theorem dX3_weigh_15 : decode cX3_weigh 15 = .ok (.iload_n 3, 1) := by decide +kernel
theorem dX3_weigh_16 : decode cX3_weigh 16 = .ok (.invokevirtual 82, 3) := by decide +kernel
theorem dX3_weigh_19 : decode cX3_weigh 19 = .ok (.iconst 0, 1) := by decide +kernel
theorem dX3_weigh_20 : decode cX3_weigh 20 = .ok (.istore 4, 2) := by decide +kernel
theorem dX3_weigh_22 : decode cX3_weigh 22 = .ok (.iconst 0, 1) := by decide +kernel
theorem dX3_weigh_23 : decode cX3_weigh 23 = .ok (.istore 5, 2) := by decide +kernel
theorem dX3_weigh_25 : decode cX3_weigh 25 = .ok (.bipush 48, 2) := by decide +kernel
theorem dX3_weigh_27 : decode cX3_weigh 27 = .ok (.istore 6, 2) := by decide +kernel
theorem dX3_weigh_29 : decode cX3_weigh 29 = .ok (.iconst 0, 1) := by decide +kernel
theorem dX3_weigh_30 : decode cX3_weigh 30 = .ok (.istore 7, 2) := by decide +kernel
theorem dX3_weigh_32 : decode cX3_weigh 32 = .ok (.iconst 0, 1) := by decide +kernel
theorem dX3_weigh_33 : decode cX3_weigh 33 = .ok (.istore 8, 2) := by decide +kernel
theorem dX3_weigh_35 : decode cX3_weigh 35 = .ok (.iload 8, 2) := by decide +kernel
theorem dX3_weigh_37 : decode cX3_weigh 37 = .ok (.aload_n 0, 1) := by decide +kernel
theorem dX3_weigh_38 : decode cX3_weigh 38 = .ok (.getfield 16, 3) := by decide +kernel
theorem dX3_weigh_41 : decode cX3_weigh 41 = .ok (.getfield 47, 3) := by decide +kernel
theorem dX3_weigh_44 : decode cX3_weigh 44 = .ok (.if_icmp .ge 88, 3) := by decide +kernel
theorem dX3_weigh_47 : decode cX3_weigh 47 = .ok (.aload_n 0, 1) := by decide +kernel
theorem dX3_weigh_48 : decode cX3_weigh 48 = .ok (.getfield 16, 3) := by decide +kernel
theorem dX3_weigh_51 : decode cX3_weigh 51 = .ok (.iload 8, 2) := by decide +kernel
theorem dX3_weigh_53 : decode cX3_weigh 53 = .ok (.iconst 3, 1) := by decide +kernel
theorem dX3_weigh_54 : decode cX3_weigh 54 = .ok (.invokevirtual 64, 3) := by decide +kernel
theorem dX3_weigh_57 : decode cX3_weigh 57 = .ok (.iload_n 3, 1) := by decide +kernel
theorem dX3_weigh_58 : decode cX3_weigh 58 = .ok (.if_icmp .ne 68, 3) := by decide +kernel
theorem dX3_weigh_61 : decode cX3_weigh 61 = .ok (.iload 4, 2) := by decide +kernel
theorem dX3_weigh_63 : decode cX3_weigh 63 = .ok (.aload_n 0, 1) := by decide +kernel
theorem dX3_weigh_64 : decode cX3_weigh 64 = .ok (.getfield 16, 3) := by decide +kernel
theorem dX3_weigh_67 : decode cX3_weigh 67 = .ok (.iload 8, 2) := by decide +kernel
theorem dX3_weigh_69 : decode cX3_weigh 69 = .ok (.iconst 2, 1) := by decide +kernel
theorem dX3_weigh_70 : decode cX3_weigh 70 = .ok (.invokevirtual 64, 3) := by decide +kernel
theorem dX3_weigh_73 : decode cX3_weigh 73 = .ok (.aload_n 0, 1) := by decide +kernel
theorem dX3_weigh_74 : decode cX3_weigh 74 = .ok (.getfield 16, 3) := by decide +kernel
theorem dX3_weigh_77 : decode cX3_weigh 77 = .ok (.iload 8, 2) := by decide +kernel
theorem dX3_weigh_79 : decode cX3_weigh 79 = .ok (.iconst 1, 1) := by decide +kernel
theorem dX3_weigh_80 : decode cX3_weigh 80 = .ok (.invokevirtual 64, 3) := by decide +kernel
theorem dX3_weigh_83 : decode cX3_weigh 83 = .ok (.isub, 1) := by decide +kernel
theorem dX3_weigh_84 : decode cX3_weigh 84 = .ok (.iconst 1, 1) := by decide +kernel
theorem dX3_weigh_85 : decode cX3_weigh 85 = .ok (.iadd, 1) := by decide +kernel
theorem dX3_weigh_86 : decode cX3_weigh 86 = .ok (.iadd, 1) := by decide +kernel
theorem dX3_weigh_87 : decode cX3_weigh 87 = .ok (.istore 4, 2) := by decide +kernel
theorem dX3_weigh_89 : decode cX3_weigh 89 = .ok (.iload 5, 2) := by decide +kernel
theorem dX3_weigh_91 : decode cX3_weigh 91 = .ok (.iconst 1, 1) := by decide +kernel
theorem dX3_weigh_92 : decode cX3_weigh 92 = .ok (.aload_n 0, 1) := by decide +kernel
theorem dX3_weigh_93 : decode cX3_weigh 93 = .ok (.getfield 16, 3) := by decide +kernel
theorem dX3_weigh_96 : decode cX3_weigh 96 = .ok (.iload 8, 2) := by decide +kernel
theorem dX3_weigh_98 : decode cX3_weigh 98 = .ok (.iconst 0, 1) := by decide +kernel
theorem dX3_weigh_99 : decode cX3_weigh 99 = .ok (.invokevirtual 64, 3) := by decide +kernel
theorem dX3_weigh_102 : decode cX3_weigh 102 = .ok (.ishl, 1) := by decide +kernel
theorem dX3_weigh_103 : decode cX3_weigh 103 = .ok (.ior, 1) := by decide +kernel
theorem dX3_weigh_104 : decode cX3_weigh 104 = .ok (.istore 5, 2) := by decide +kernel
theorem dX3_weigh_106 : decode cX3_weigh 106 = .ok (.iload 6, 2) := by decide +kernel
theorem dX3_weigh_108 : decode cX3_weigh 108 = .ok (.aload_n 0, 1) := by decide +kernel
theorem dX3_weigh_109 : decode cX3_weigh 109 = .ok (.getfield 16, 3) := by decide +kernel
theorem dX3_weigh_112 : decode cX3_weigh 112 = .ok (.iload 8, 2) := by decide +kernel
theorem dX3_weigh_114 : decode cX3_weigh 114 = .ok (.iconst 1, 1) := by decide +kernel
theorem dX3_weigh_115 : decode cX3_weigh 115 = .ok (.invokevirtual 64, 3) := by decide +kernel
theorem dX3_weigh_118 : decode cX3_weigh 118 = .ok (.invokestatic 86, 3) := by decide +kernel
theorem dX3_weigh_121 : decode cX3_weigh 121 = .ok (.istore 6, 2) := by decide +kernel
theorem dX3_weigh_123 : decode cX3_weigh 123 = .ok (.iinc 7 1, 3) := by decide +kernel
theorem dX3_weigh_126 : decode cX3_weigh 126 = .ok (.iinc 8 1, 3) := by decide +kernel
theorem dX3_weigh_129 : decode cX3_weigh 129 = .ok (.goto (-94), 3) := by decide +kernel
theorem dX3_weigh_132 : decode cX3_weigh 132 = .ok (.aload_n 0, 1) := by decide +kernel
theorem dX3_weigh_133 : decode cX3_weigh 133 = .ok (.invokevirtual 91, 3) := by decide +kernel
theorem dX3_weigh_136 : decode cX3_weigh 136 = .ok (.istore 8, 2) := by decide +kernel
theorem dX3_weigh_138 : decode cX3_weigh 138 = .ok (.aload_n 1, 1) := by decide +kernel
theorem dX3_weigh_139 : decode cX3_weigh 139 = .ok (.iload 4, 2) := by decide +kernel
theorem dX3_weigh_141 : decode cX3_weigh 141 = .ok (.iload 5, 2) := by decide +kernel
theorem dX3_weigh_143 : decode cX3_weigh 143 = .ok (.invokestatic 95, 3) := by decide +kernel
theorem dX3_weigh_146 : decode cX3_weigh 146 = .ok (.iload 8, 2) := by decide +kernel
theorem dX3_weigh_148 : decode cX3_weigh 148 = .ok (.invokestatic 95, 3) := by decide +kernel
theorem dX3_weigh_151 : decode cX3_weigh 151 = .ok (.iload 6, 2) := by decide +kernel
theorem dX3_weigh_153 : decode cX3_weigh 153 = .ok (.invokestatic 101, 3) := by decide +kernel
theorem dX3_weigh_156 : decode cX3_weigh 156 = .ok (.istore 9, 2) := by decide +kernel
theorem dX3_weigh_158 : decode cX3_weigh 158 = .ok (.aload_n 0, 1) := by decide +kernel
theorem dX3_weigh_159 : decode cX3_weigh 159 = .ok (.getfield 20, 3) := by decide +kernel
theorem dX3_weigh_162 : decode cX3_weigh 162 = .ok (.iload_n 3, 1) := by decide +kernel
theorem dX3_weigh_163 : decode cX3_weigh 163 = .ok (.iconst 0, 1) := by decide +kernel
theorem dX3_weigh_164 : decode cX3_weigh 164 = .ok (.iload 4, 2) := by decide +kernel
theorem dX3_weigh_166 : decode cX3_weigh 166 = .ok (.invokevirtual 75, 3) := by decide +kernel
theorem dX3_weigh_169 : decode cX3_weigh 169 = .ok (.aload_n 0, 1) := by decide +kernel
theorem dX3_weigh_170 : decode cX3_weigh 170 = .ok (.getfield 20, 3) := by decide +kernel
theorem dX3_weigh_173 : decode cX3_weigh 173 = .ok (.iload_n 3, 1) := by decide +kernel
theorem dX3_weigh_174 : decode cX3_weigh 174 = .ok (.iconst 1, 1) := by decide +kernel
theorem dX3_weigh_175 : decode cX3_weigh 175 = .ok (.iload 5, 2) := by decide +kernel
theorem dX3_weigh_177 : decode cX3_weigh 177 = .ok (.invokestatic 95, 3) := by decide +kernel
theorem dX3_weigh_180 : decode cX3_weigh 180 = .ok (.invokevirtual 75, 3) := by decide +kernel
theorem dX3_weigh_183 : decode cX3_weigh 183 = .ok (.aload_n 0, 1) := by decide +kernel
theorem dX3_weigh_184 : decode cX3_weigh 184 = .ok (.getfield 20, 3) := by decide +kernel
theorem dX3_weigh_187 : decode cX3_weigh 187 = .ok (.iload_n 3, 1) := by decide +kernel
theorem dX3_weigh_188 : decode cX3_weigh 188 = .ok (.iconst 2, 1) := by decide +kernel
theorem dX3_weigh_189 : decode cX3_weigh 189 = .ok (.iload 8, 2) := by decide +kernel
theorem dX3_weigh_191 : decode cX3_weigh 191 = .ok (.invokevirtual 75, 3) := by decide +kernel
theorem dX3_weigh_194 : decode cX3_weigh 194 = .ok (.aload_n 0, 1) := by decide +kernel
theorem dX3_weigh_195 : decode cX3_weigh 195 = .ok (.getfield 20, 3) := by decide +kernel
theorem dX3_weigh_198 : decode cX3_weigh 198 = .ok (.iload_n 3, 1) := by decide +kernel
theorem dX3_weigh_199 : decode cX3_weigh 199 = .ok (.iconst 3, 1) := by decide +kernel
theorem dX3_weigh_200 : decode cX3_weigh 200 = .ok (.iload 9, 2) := by decide +kernel
theorem dX3_weigh_202 : decode cX3_weigh 202 = .ok (.invokevirtual 75, 3) := by decide +kernel
theorem dX3_weigh_205 : decode cX3_weigh 205 = .ok (.aload_n 0, 1) := by decide +kernel
theorem dX3_weigh_206 : decode cX3_weigh 206 = .ok (.getfield 20, 3) := by decide +kernel
theorem dX3_weigh_209 : decode cX3_weigh 209 = .ok (.iload_n 3, 1) := by decide +kernel
theorem dX3_weigh_210 : decode cX3_weigh 210 = .ok (.iconst 4, 1) := by decide +kernel
theorem dX3_weigh_211 : decode cX3_weigh 211 = .ok (.iload 6, 2) := by decide +kernel
theorem dX3_weigh_213 : decode cX3_weigh 213 = .ok (.invokevirtual 75, 3) := by decide +kernel
theorem dX3_weigh_216 : decode cX3_weigh 216 = .ok (.aload_n 0, 1) := by decide +kernel
theorem dX3_weigh_217 : decode cX3_weigh 217 = .ok (.getfield 20, 3) := by decide +kernel
theorem dX3_weigh_220 : decode cX3_weigh 220 = .ok (.iload_n 3, 1) := by decide +kernel
theorem dX3_weigh_221 : decode cX3_weigh 221 = .ok (.iconst 5, 1) := by decide +kernel
theorem dX3_weigh_222 : decode cX3_weigh 222 = .ok (.iload 7, 2) := by decide +kernel
theorem dX3_weigh_224 : decode cX3_weigh 224 = .ok (.invokevirtual 75, 3) := by decide +kernel
theorem dX3_weigh_227 : decode cX3_weigh 227 = .ok (.iinc 3 1, 3) := by decide +kernel
theorem dX3_weigh_230 : decode cX3_weigh 230 = .ok (.goto (-228), 3) := by decide +kernel
theorem dX3_weigh_233 : decode cX3_weigh 233 = .ok (.return_, 1) := by decide +kernel
theorem dX3_worth_0 : decode cX3_worth 0 = .ok (.aload_n 0, 1) := by decide +kernel
theorem dX3_worth_1 : decode cX3_worth 1 = .ok (.getfield 105, 3) := by decide +kernel
theorem dX3_worth_4 : decode cX3_worth 4 = .ok (.iconst 0, 1) := by decide +kernel
theorem dX3_worth_5 : decode cX3_worth 5 = .ok (.iconst 0, 1) := by decide +kernel
theorem dX3_worth_6 : decode cX3_worth 6 = .ok (.iload 4, 2) := by decide +kernel
theorem dX3_worth_8 : decode cX3_worth 8 = .ok (.iload_n 1, 1) := by decide +kernel
theorem dX3_worth_9 : decode cX3_worth 9 = .ok (.iload_n 2, 1) := by decide +kernel
theorem dX3_worth_10 : decode cX3_worth 10 = .ok (.iload_n 3, 1) := by decide +kernel
theorem dX3_worth_11 : decode cX3_worth 11 = .ok (.invokevirtual 108, 3) := by decide +kernel
theorem dX3_worth_14 : decode cX3_worth 14 = .ok (.lstore 5, 2) := by decide +kernel
theorem dX3_worth_16 : decode cX3_worth 16 = .ok (.lload 5, 2) := by decide +kernel
theorem dX3_worth_18 : decode cX3_worth 18 = .ok (.ldc2_w 114, 3) := by decide +kernel
theorem dX3_worth_21 : decode cX3_worth 21 = .ok (.lcmp, 1) := by decide +kernel
theorem dX3_worth_22 : decode cX3_worth 22 = .ok (.ifCond .ne 5, 3) := by decide +kernel
theorem dX3_worth_25 : decode cX3_worth 25 = .ok (.iload_n 1, 1) := by decide +kernel
theorem dX3_worth_26 : decode cX3_worth 26 = .ok (.ireturn, 1) := by decide +kernel
theorem dX3_worth_27 : decode cX3_worth 27 = .ok (.lconst 0, 1) := by decide +kernel
theorem dX3_worth_28 : decode cX3_worth 28 = .ok (.lload 5, 2) := by decide +kernel
theorem dX3_worth_30 : decode cX3_worth 30 = .ok (.ldc2_w 116, 3) := by decide +kernel
theorem dX3_worth_33 : decode cX3_worth 33 = .ok (.invokestatic 118, 3) := by decide +kernel
theorem dX3_worth_36 : decode cX3_worth 36 = .ok (.invokestatic 121, 3) := by decide +kernel
theorem dX3_worth_39 : decode cX3_worth 39 = .ok (.l2i, 1) := by decide +kernel
theorem dX3_worth_40 : decode cX3_worth 40 = .ok (.ireturn, 1) := by decide +kernel
theorem dX3_survey_0 : decode cX3_survey 0 = .ok (.iconst 0, 1) := by decide +kernel
theorem dX3_survey_1 : decode cX3_survey 1 = .ok (.istore_n 3, 1) := by decide +kernel
theorem dX3_survey_2 : decode cX3_survey 2 = .ok (.iload_n 3, 1) := by decide +kernel
theorem dX3_survey_3 : decode cX3_survey 3 = .ok (.iconst 4, 1) := by decide +kernel
theorem dX3_survey_4 : decode cX3_survey 4 = .ok (.if_icmp .ge 31, 3) := by decide +kernel
theorem dX3_survey_7 : decode cX3_survey 7 = .ok (.aload_n 0, 1) := by decide +kernel
theorem dX3_survey_8 : decode cX3_survey 8 = .ok (.getfield 30, 3) := by decide +kernel
theorem dX3_survey_11 : decode cX3_survey 11 = .ok (.iload_n 3, 1) := by decide +kernel
theorem dX3_survey_12 : decode cX3_survey 12 = .ok (.iconst 0, 1) := by decide +kernel
theorem dX3_survey_13 : decode cX3_survey 13 = .ok (.iastore, 1) := by decide +kernel
theorem dX3_survey_14 : decode cX3_survey 14 = .ok (.aload_n 0, 1) := by decide +kernel
theorem dX3_survey_15 : decode cX3_survey 15 = .ok (.getfield 33, 3) := by decide +kernel
theorem dX3_survey_18 : decode cX3_survey 18 = .ok (.iload_n 3, 1) := by decide +kernel
theorem dX3_survey_19 : decode cX3_survey 19 = .ok (.iconst 0, 1) := by decide +kernel
theorem dX3_survey_20 : decode cX3_survey 20 = .ok (.iastore, 1) := by decide +kernel
theorem dX3_survey_21 : decode cX3_survey 21 = .ok (.aload_n 0, 1) := by decide +kernel
theorem dX3_survey_22 : decode cX3_survey 22 = .ok (.getfield 36, 3) := by decide +kernel
theorem dX3_survey_25 : decode cX3_survey 25 = .ok (.iload_n 3, 1) := by decide +kernel
theorem dX3_survey_26 : decode cX3_survey 26 = .ok (.bipush 48, 2) := by decide +kernel
theorem dX3_survey_28 : decode cX3_survey 28 = .ok (.iastore, 1) := by decide +kernel
theorem dX3_survey_29 : decode cX3_survey 29 = .ok (.iinc 3 1, 3) := by decide +kernel
theorem dX3_survey_32 : decode cX3_survey 32 = .ok (.goto (-30), 3) := by decide +kernel
theorem dX3_survey_35 : decode cX3_survey 35 = .ok (.iconst 0, 1) := by decide +kernel
theorem dX3_survey_36 : decode cX3_survey 36 = .ok (.istore_n 3, 1) := by decide +kernel
theorem dX3_survey_37 : decode cX3_survey 37 = .ok (.iload_n 3, 1) := by decide +kernel
theorem dX3_survey_38 : decode cX3_survey 38 = .ok (.aload_n 0, 1) := by decide +kernel
theorem dX3_survey_39 : decode cX3_survey 39 = .ok (.getfield 16, 3) := by decide +kernel
theorem dX3_survey_42 : decode cX3_survey 42 = .ok (.getfield 47, 3) := by decide +kernel
theorem dX3_survey_45 : decode cX3_survey 45 = .ok (.if_icmp .ge 28, 3) := by decide +kernel
theorem dX3_survey_48 : decode cX3_survey 48 = .ok (.aload_n 0, 1) := by decide +kernel
theorem dX3_survey_49 : decode cX3_survey 49 = .ok (.getfield 16, 3) := by decide +kernel
theorem dX3_survey_52 : decode cX3_survey 52 = .ok (.iload_n 3, 1) := by decide +kernel
theorem dX3_survey_53 : decode cX3_survey 53 = .ok (.iconst 3, 1) := by decide +kernel
theorem dX3_survey_54 : decode cX3_survey 54 = .ok (.invokevirtual 64, 3) := by decide +kernel
theorem dX3_survey_57 : decode cX3_survey 57 = .ok (.iload_n 2, 1) := by decide +kernel
theorem dX3_survey_58 : decode cX3_survey 58 = .ok (.if_icmp .ne 9, 3) := by decide +kernel
theorem dX3_survey_61 : decode cX3_survey 61 = .ok (.aload_n 0, 1) := by decide +kernel
theorem dX3_survey_62 : decode cX3_survey 62 = .ok (.aload_n 1, 1) := by decide +kernel
theorem dX3_survey_63 : decode cX3_survey 63 = .ok (.iload_n 3, 1) := by decide +kernel
theorem dX3_survey_64 : decode cX3_survey 64 = .ok (.invokevirtual 124, 3) := by decide +kernel
theorem dX3_survey_67 : decode cX3_survey 67 = .ok (.iinc 3 1, 3) := by decide +kernel
theorem dX3_survey_70 : decode cX3_survey 70 = .ok (.goto (-33), 3) := by decide +kernel
theorem dX3_survey_73 : decode cX3_survey 73 = .ok (.return_, 1) := by decide +kernel
theorem dX3_surveySpan_0 : decode cX3_surveySpan 0 = .ok (.aload_n 0, 1) := by decide +kernel
theorem dX3_surveySpan_1 : decode cX3_surveySpan 1 = .ok (.getfield 16, 3) := by decide +kernel
theorem dX3_surveySpan_4 : decode cX3_surveySpan 4 = .ok (.iload_n 2, 1) := by decide +kernel
theorem dX3_surveySpan_5 : decode cX3_surveySpan 5 = .ok (.iconst 0, 1) := by decide +kernel
theorem dX3_surveySpan_6 : decode cX3_surveySpan 6 = .ok (.invokevirtual 64, 3) := by decide +kernel
theorem dX3_surveySpan_9 : decode cX3_surveySpan 9 = .ok (.istore_n 3, 1) := by decide +kernel
theorem dX3_surveySpan_10 : decode cX3_surveySpan 10 = .ok (.aload_n 0, 1) := by decide +kernel
theorem dX3_surveySpan_11 : decode cX3_surveySpan 11 = .ok (.getfield 16, 3) := by decide +kernel
theorem dX3_surveySpan_14 : decode cX3_surveySpan 14 = .ok (.iload_n 2, 1) := by decide +kernel
theorem dX3_surveySpan_15 : decode cX3_surveySpan 15 = .ok (.iconst 2, 1) := by decide +kernel
theorem dX3_surveySpan_16 : decode cX3_surveySpan 16 = .ok (.invokevirtual 64, 3) := by decide +kernel
theorem dX3_surveySpan_19 : decode cX3_surveySpan 19 = .ok (.istore 4, 2) := by decide +kernel
theorem dX3_surveySpan_21 : decode cX3_surveySpan 21 = .ok (.aload_n 0, 1) := by decide +kernel
theorem dX3_surveySpan_22 : decode cX3_surveySpan 22 = .ok (.getfield 16, 3) := by decide +kernel
theorem dX3_surveySpan_25 : decode cX3_surveySpan 25 = .ok (.iload_n 2, 1) := by decide +kernel
theorem dX3_surveySpan_26 : decode cX3_surveySpan 26 = .ok (.iconst 1, 1) := by decide +kernel
theorem dX3_surveySpan_27 : decode cX3_surveySpan 27 = .ok (.invokevirtual 64, 3) := by decide +kernel
theorem dX3_surveySpan_30 : decode cX3_surveySpan 30 = .ok (.istore 5, 2) := by decide +kernel
theorem dX3_surveySpan_32 : decode cX3_surveySpan 32 = .ok (.iload 5, 2) := by decide +kernel
theorem dX3_surveySpan_34 : decode cX3_surveySpan 34 = .ok (.iload 4, 2) := by decide +kernel
theorem dX3_surveySpan_36 : decode cX3_surveySpan 36 = .ok (.if_icmp .gt 72, 3) := by decide +kernel
theorem dX3_surveySpan_39 : decode cX3_surveySpan 39 = .ok (.aload_n 1, 1) := by decide +kernel
theorem dX3_surveySpan_40 : decode cX3_surveySpan 40 = .ok (.iload_n 3, 1) := by decide +kernel
theorem dX3_surveySpan_41 : decode cX3_surveySpan 41 = .ok (.iload 5, 2) := by decide +kernel
theorem dX3_surveySpan_43 : decode cX3_surveySpan 43 = .ok (.invokevirtual 127, 3) := by decide +kernel
theorem dX3_surveySpan_46 : decode cX3_surveySpan 46 = .ok (.istore 6, 2) := by decide +kernel
theorem dX3_surveySpan_48 : decode cX3_surveySpan 48 = .ok (.iload 6, 2) := by decide +kernel
theorem dX3_surveySpan_50 : decode cX3_surveySpan 50 = .ok (.ifCond .lt 52, 3) := by decide +kernel
theorem dX3_surveySpan_53 : decode cX3_surveySpan 53 = .ok (.iload 6, 2) := by decide +kernel
theorem dX3_surveySpan_55 : decode cX3_surveySpan 55 = .ok (.iconst 4, 1) := by decide +kernel
theorem dX3_surveySpan_56 : decode cX3_surveySpan 56 = .ok (.if_icmp .ge 46, 3) := by decide +kernel
theorem dX3_surveySpan_59 : decode cX3_surveySpan 59 = .ok (.aload_n 0, 1) := by decide +kernel
theorem dX3_surveySpan_60 : decode cX3_surveySpan 60 = .ok (.getfield 30, 3) := by decide +kernel
theorem dX3_surveySpan_63 : decode cX3_surveySpan 63 = .ok (.iload 6, 2) := by decide +kernel
theorem dX3_surveySpan_65 : decode cX3_surveySpan 65 = .ok (.dup2, 1) := by decide +kernel
theorem dX3_surveySpan_66 : decode cX3_surveySpan 66 = .ok (.iaload, 1) := by decide +kernel
theorem dX3_surveySpan_67 : decode cX3_surveySpan 67 = .ok (.iconst 1, 1) := by decide +kernel
theorem dX3_surveySpan_68 : decode cX3_surveySpan 68 = .ok (.iadd, 1) := by decide +kernel
theorem dX3_surveySpan_69 : decode cX3_surveySpan 69 = .ok (.iastore, 1) := by decide +kernel
theorem dX3_surveySpan_70 : decode cX3_surveySpan 70 = .ok (.aload_n 0, 1) := by decide +kernel
theorem dX3_surveySpan_71 : decode cX3_surveySpan 71 = .ok (.getfield 33, 3) := by decide +kernel
theorem dX3_surveySpan_74 : decode cX3_surveySpan 74 = .ok (.iload 6, 2) := by decide +kernel
theorem dX3_surveySpan_76 : decode cX3_surveySpan 76 = .ok (.dup2, 1) := by decide +kernel
theorem dX3_surveySpan_77 : decode cX3_surveySpan 77 = .ok (.iaload, 1) := by decide +kernel
theorem dX3_surveySpan_78 : decode cX3_surveySpan 78 = .ok (.iconst 1, 1) := by decide +kernel
theorem dX3_surveySpan_79 : decode cX3_surveySpan 79 = .ok (.iload_n 3, 1) := by decide +kernel
theorem dX3_surveySpan_80 : decode cX3_surveySpan 80 = .ok (.ishl, 1) := by decide +kernel
theorem dX3_surveySpan_81 : decode cX3_surveySpan 81 = .ok (.ior, 1) := by decide +kernel
theorem dX3_surveySpan_82 : decode cX3_surveySpan 82 = .ok (.iastore, 1) := by decide +kernel
theorem dX3_surveySpan_83 : decode cX3_surveySpan 83 = .ok (.aload_n 0, 1) := by decide +kernel
theorem dX3_surveySpan_84 : decode cX3_surveySpan 84 = .ok (.getfield 36, 3) := by decide +kernel
theorem dX3_surveySpan_87 : decode cX3_surveySpan 87 = .ok (.iload 6, 2) := by decide +kernel
theorem dX3_surveySpan_89 : decode cX3_surveySpan 89 = .ok (.aload_n 0, 1) := by decide +kernel
theorem dX3_surveySpan_90 : decode cX3_surveySpan 90 = .ok (.getfield 36, 3) := by decide +kernel
theorem dX3_surveySpan_93 : decode cX3_surveySpan 93 = .ok (.iload 6, 2) := by decide +kernel
theorem dX3_surveySpan_95 : decode cX3_surveySpan 95 = .ok (.iaload, 1) := by decide +kernel
theorem dX3_surveySpan_96 : decode cX3_surveySpan 96 = .ok (.iload 5, 2) := by decide +kernel
theorem dX3_surveySpan_98 : decode cX3_surveySpan 98 = .ok (.invokestatic 86, 3) := by decide +kernel
theorem dX3_surveySpan_101 : decode cX3_surveySpan 101 = .ok (.iastore, 1) := by decide +kernel
theorem dX3_surveySpan_102 : decode cX3_surveySpan 102 = .ok (.iinc 5 1, 3) := by decide +kernel
theorem dX3_surveySpan_105 : decode cX3_surveySpan 105 = .ok (.goto (-73), 3) := by decide +kernel
theorem dX3_surveySpan_108 : decode cX3_surveySpan 108 = .ok (.return_, 1) := by decide +kernel
theorem dX3_holdersSurveyed_0 : decode cX3_holdersSurveyed 0 = .ok (.iconst 0, 1) := by decide +kernel
theorem dX3_holdersSurveyed_1 : decode cX3_holdersSurveyed 1 = .ok (.istore_n 1, 1) := by decide +kernel
theorem dX3_holdersSurveyed_2 : decode cX3_holdersSurveyed 2 = .ok (.iconst 0, 1) := by decide +kernel
theorem dX3_holdersSurveyed_3 : decode cX3_holdersSurveyed 3 = .ok (.istore_n 2, 1) := by decide +kernel
theorem dX3_holdersSurveyed_4 : decode cX3_holdersSurveyed 4 = .ok (.iload_n 2, 1) := by decide +kernel
theorem dX3_holdersSurveyed_5 : decode cX3_holdersSurveyed 5 = .ok (.iconst 4, 1) := by decide +kernel
theorem dX3_holdersSurveyed_6 : decode cX3_holdersSurveyed 6 = .ok (.if_icmp .ge 24, 3) := by decide +kernel
theorem dX3_holdersSurveyed_9 : decode cX3_holdersSurveyed 9 = .ok (.aload_n 0, 1) := by decide +kernel
theorem dX3_holdersSurveyed_10 : decode cX3_holdersSurveyed 10 = .ok (.getfield 30, 3) := by decide +kernel
theorem dX3_holdersSurveyed_13 : decode cX3_holdersSurveyed 13 = .ok (.iload_n 2, 1) := by decide +kernel
theorem dX3_holdersSurveyed_14 : decode cX3_holdersSurveyed 14 = .ok (.iaload, 1) := by decide +kernel
theorem dX3_holdersSurveyed_15 : decode cX3_holdersSurveyed 15 = .ok (.ifCond .le 9, 3) := by decide +kernel
theorem dX3_holdersSurveyed_18 : decode cX3_holdersSurveyed 18 = .ok (.iload_n 1, 1) := by decide +kernel
theorem dX3_holdersSurveyed_19 : decode cX3_holdersSurveyed 19 = .ok (.iconst 1, 1) := by decide +kernel
theorem dX3_holdersSurveyed_20 : decode cX3_holdersSurveyed 20 = .ok (.iload_n 2, 1) := by decide +kernel
theorem dX3_holdersSurveyed_21 : decode cX3_holdersSurveyed 21 = .ok (.ishl, 1) := by decide +kernel
theorem dX3_holdersSurveyed_22 : decode cX3_holdersSurveyed 22 = .ok (.ior, 1) := by decide +kernel
theorem dX3_holdersSurveyed_23 : decode cX3_holdersSurveyed 23 = .ok (.istore_n 1, 1) := by decide +kernel
theorem dX3_holdersSurveyed_24 : decode cX3_holdersSurveyed 24 = .ok (.iinc 2 1, 3) := by decide +kernel
theorem dX3_holdersSurveyed_27 : decode cX3_holdersSurveyed 27 = .ok (.goto (-23), 3) := by decide +kernel
theorem dX3_holdersSurveyed_30 : decode cX3_holdersSurveyed 30 = .ok (.iload_n 1, 1) := by decide +kernel
theorem dX3_holdersSurveyed_31 : decode cX3_holdersSurveyed 31 = .ok (.ireturn, 1) := by decide +kernel
theorem dX3_minutesOfSet_0 : decode cX3_minutesOfSet 0 = .ok (.iconst 0, 1) := by decide +kernel
theorem dX3_minutesOfSet_1 : decode cX3_minutesOfSet 1 = .ok (.istore_n 2, 1) := by decide +kernel
theorem dX3_minutesOfSet_2 : decode cX3_minutesOfSet 2 = .ok (.iconst 0, 1) := by decide +kernel
theorem dX3_minutesOfSet_3 : decode cX3_minutesOfSet 3 = .ok (.istore_n 3, 1) := by decide +kernel
theorem dX3_minutesOfSet_4 : decode cX3_minutesOfSet 4 = .ok (.iload_n 3, 1) := by decide +kernel
theorem dX3_minutesOfSet_5 : decode cX3_minutesOfSet 5 = .ok (.iconst 4, 1) := by decide +kernel
theorem dX3_minutesOfSet_6 : decode cX3_minutesOfSet 6 = .ok (.if_icmp .ge 24, 3) := by decide +kernel
theorem dX3_minutesOfSet_9 : decode cX3_minutesOfSet 9 = .ok (.iload_n 2, 1) := by decide +kernel
theorem dX3_minutesOfSet_10 : decode cX3_minutesOfSet 10 = .ok (.iload_n 1, 1) := by decide +kernel
theorem dX3_minutesOfSet_11 : decode cX3_minutesOfSet 11 = .ok (.iload_n 3, 1) := by decide +kernel
theorem dX3_minutesOfSet_12 : decode cX3_minutesOfSet 12 = .ok (.ishr, 1) := by decide +kernel
theorem dX3_minutesOfSet_13 : decode cX3_minutesOfSet 13 = .ok (.iconst 1, 1) := by decide +kernel
theorem dX3_minutesOfSet_14 : decode cX3_minutesOfSet 14 = .ok (.iand, 1) := by decide +kernel
theorem dX3_minutesOfSet_15 : decode cX3_minutesOfSet 15 = .ok (.aload_n 0, 1) := by decide +kernel
theorem dX3_minutesOfSet_16 : decode cX3_minutesOfSet 16 = .ok (.getfield 30, 3) := by decide +kernel
theorem dX3_minutesOfSet_19 : decode cX3_minutesOfSet 19 = .ok (.iload_n 3, 1) := by decide +kernel
theorem dX3_minutesOfSet_20 : decode cX3_minutesOfSet 20 = .ok (.iaload, 1) := by decide +kernel
theorem dX3_minutesOfSet_21 : decode cX3_minutesOfSet 21 = .ok (.imul, 1) := by decide +kernel
theorem dX3_minutesOfSet_22 : decode cX3_minutesOfSet 22 = .ok (.iadd, 1) := by decide +kernel
theorem dX3_minutesOfSet_23 : decode cX3_minutesOfSet 23 = .ok (.istore_n 2, 1) := by decide +kernel
theorem dX3_minutesOfSet_24 : decode cX3_minutesOfSet 24 = .ok (.iinc 3 1, 3) := by decide +kernel
theorem dX3_minutesOfSet_27 : decode cX3_minutesOfSet 27 = .ok (.goto (-23), 3) := by decide +kernel
theorem dX3_minutesOfSet_30 : decode cX3_minutesOfSet 30 = .ok (.iload_n 2, 1) := by decide +kernel
theorem dX3_minutesOfSet_31 : decode cX3_minutesOfSet 31 = .ok (.ireturn, 1) := by decide +kernel
theorem dX3_worthOfSet_0 : decode cX3_worthOfSet 0 = .ok (.iload_n 2, 1) := by decide +kernel
theorem dX3_worthOfSet_1 : decode cX3_worthOfSet 1 = .ok (.ifCond .ne 5, 3) := by decide +kernel
theorem dX3_worthOfSet_4 : decode cX3_worthOfSet 4 = .ok (.iconst 0, 1) := by decide +kernel
theorem dX3_worthOfSet_5 : decode cX3_worthOfSet 5 = .ok (.ireturn, 1) := by decide +kernel
theorem dX3_worthOfSet_6 : decode cX3_worthOfSet 6 = .ok (.iconst 0, 1) := by decide +kernel
theorem dX3_worthOfSet_7 : decode cX3_worthOfSet 7 = .ok (.istore_n 3, 1) := by decide +kernel
theorem dX3_worthOfSet_8 : decode cX3_worthOfSet 8 = .ok (.bipush 48, 2) := by decide +kernel
theorem dX3_worthOfSet_10 : decode cX3_worthOfSet 10 = .ok (.istore 4, 2) := by decide +kernel
theorem dX3_worthOfSet_12 : decode cX3_worthOfSet 12 = .ok (.iconst 0, 1) := by decide +kernel
theorem dX3_worthOfSet_13 : decode cX3_worthOfSet 13 = .ok (.istore 5, 2) := by decide +kernel
theorem dX3_worthOfSet_15 : decode cX3_worthOfSet 15 = .ok (.iload 5, 2) := by decide +kernel
theorem dX3_worthOfSet_17 : decode cX3_worthOfSet 17 = .ok (.iconst 4, 1) := by decide +kernel
theorem dX3_worthOfSet_18 : decode cX3_worthOfSet 18 = .ok (.if_icmp .ge 43, 3) := by decide +kernel
theorem dX3_worthOfSet_21 : decode cX3_worthOfSet 21 = .ok (.iload_n 2, 1) := by decide +kernel
theorem dX3_worthOfSet_22 : decode cX3_worthOfSet 22 = .ok (.iload 5, 2) := by decide +kernel
theorem dX3_worthOfSet_24 : decode cX3_worthOfSet 24 = .ok (.ishr, 1) := by decide +kernel
theorem dX3_worthOfSet_25 : decode cX3_worthOfSet 25 = .ok (.iconst 1, 1) := by decide +kernel
theorem dX3_worthOfSet_26 : decode cX3_worthOfSet 26 = .ok (.iand, 1) := by decide +kernel
theorem dX3_worthOfSet_27 : decode cX3_worthOfSet 27 = .ok (.iconst 1, 1) := by decide +kernel
theorem dX3_worthOfSet_28 : decode cX3_worthOfSet 28 = .ok (.if_icmp .ne 27, 3) := by decide +kernel
theorem dX3_worthOfSet_31 : decode cX3_worthOfSet 31 = .ok (.iload_n 3, 1) := by decide +kernel
theorem dX3_worthOfSet_32 : decode cX3_worthOfSet 32 = .ok (.aload_n 0, 1) := by decide +kernel
theorem dX3_worthOfSet_33 : decode cX3_worthOfSet 33 = .ok (.getfield 33, 3) := by decide +kernel
theorem dX3_worthOfSet_36 : decode cX3_worthOfSet 36 = .ok (.iload 5, 2) := by decide +kernel
theorem dX3_worthOfSet_38 : decode cX3_worthOfSet 38 = .ok (.iaload, 1) := by decide +kernel
theorem dX3_worthOfSet_39 : decode cX3_worthOfSet 39 = .ok (.ior, 1) := by decide +kernel
theorem dX3_worthOfSet_40 : decode cX3_worthOfSet 40 = .ok (.istore_n 3, 1) := by decide +kernel
theorem dX3_worthOfSet_41 : decode cX3_worthOfSet 41 = .ok (.iload 4, 2) := by decide +kernel
theorem dX3_worthOfSet_43 : decode cX3_worthOfSet 43 = .ok (.aload_n 0, 1) := by decide +kernel
theorem dX3_worthOfSet_44 : decode cX3_worthOfSet 44 = .ok (.getfield 36, 3) := by decide +kernel
theorem dX3_worthOfSet_47 : decode cX3_worthOfSet 47 = .ok (.iload 5, 2) := by decide +kernel
theorem dX3_worthOfSet_49 : decode cX3_worthOfSet 49 = .ok (.iaload, 1) := by decide +kernel
theorem dX3_worthOfSet_50 : decode cX3_worthOfSet 50 = .ok (.invokestatic 86, 3) := by decide +kernel
theorem dX3_worthOfSet_53 : decode cX3_worthOfSet 53 = .ok (.istore 4, 2) := by decide +kernel
theorem dX3_worthOfSet_55 : decode cX3_worthOfSet 55 = .ok (.iinc 5 1, 3) := by decide +kernel
theorem dX3_worthOfSet_58 : decode cX3_worthOfSet 58 = .ok (.goto (-43), 3) := by decide +kernel
theorem dX3_worthOfSet_61 : decode cX3_worthOfSet 61 = .ok (.aload_n 1, 1) := by decide +kernel
theorem dX3_worthOfSet_62 : decode cX3_worthOfSet 62 = .ok (.aload_n 0, 1) := by decide +kernel
theorem dX3_worthOfSet_63 : decode cX3_worthOfSet 63 = .ok (.iload_n 2, 1) := by decide +kernel
theorem dX3_worthOfSet_64 : decode cX3_worthOfSet 64 = .ok (.invokevirtual 130, 3) := by decide +kernel
theorem dX3_worthOfSet_67 : decode cX3_worthOfSet 67 = .ok (.iload_n 3, 1) := by decide +kernel
theorem dX3_worthOfSet_68 : decode cX3_worthOfSet 68 = .ok (.invokestatic 95, 3) := by decide +kernel
theorem dX3_worthOfSet_71 : decode cX3_worthOfSet 71 = .ok (.iload_n 2, 1) := by decide +kernel
theorem dX3_worthOfSet_72 : decode cX3_worthOfSet 72 = .ok (.invokestatic 95, 3) := by decide +kernel
theorem dX3_worthOfSet_75 : decode cX3_worthOfSet 75 = .ok (.iload 4, 2) := by decide +kernel
theorem dX3_worthOfSet_77 : decode cX3_worthOfSet 77 = .ok (.invokestatic 101, 3) := by decide +kernel
theorem dX3_worthOfSet_80 : decode cX3_worthOfSet 80 = .ok (.ireturn, 1) := by decide +kernel
theorem dX3_minutesOf_0 : decode cX3_minutesOf 0 = .ok (.aload_n 0, 1) := by decide +kernel
theorem dX3_minutesOf_1 : decode cX3_minutesOf 1 = .ok (.aload_n 1, 1) := by decide +kernel
theorem dX3_minutesOf_2 : decode cX3_minutesOf 2 = .ok (.iload_n 2, 1) := by decide +kernel
theorem dX3_minutesOf_3 : decode cX3_minutesOf 3 = .ok (.invokevirtual 82, 3) := by decide +kernel
theorem dX3_minutesOf_6 : decode cX3_minutesOf 6 = .ok (.aload_n 0, 1) := by decide +kernel
theorem dX3_minutesOf_7 : decode cX3_minutesOf 7 = .ok (.iconst 1, 1) := by decide +kernel
theorem dX3_minutesOf_8 : decode cX3_minutesOf 8 = .ok (.iload_n 3, 1) := by decide +kernel
theorem dX3_minutesOf_9 : decode cX3_minutesOf 9 = .ok (.ishl, 1) := by decide +kernel
theorem dX3_minutesOf_10 : decode cX3_minutesOf 10 = .ok (.invokevirtual 130, 3) := by decide +kernel
theorem dX3_minutesOf_13 : decode cX3_minutesOf 13 = .ok (.ireturn, 1) := by decide +kernel
theorem dX3_partOf_0 : decode cX3_partOf 0 = .ok (.aload_n 0, 1) := by decide +kernel
theorem dX3_partOf_1 : decode cX3_partOf 1 = .ok (.aload_n 2, 1) := by decide +kernel
theorem dX3_partOf_2 : decode cX3_partOf 2 = .ok (.iload_n 3, 1) := by decide +kernel
theorem dX3_partOf_3 : decode cX3_partOf 3 = .ok (.invokevirtual 82, 3) := by decide +kernel
theorem dX3_partOf_6 : decode cX3_partOf 6 = .ok (.aload_n 0, 1) := by decide +kernel
theorem dX3_partOf_7 : decode cX3_partOf 7 = .ok (.invokevirtual 91, 3) := by decide +kernel
theorem dX3_partOf_10 : decode cX3_partOf 10 = .ok (.istore 5, 2) := by decide +kernel
theorem dX3_partOf_12 : decode cX3_partOf 12 = .ok (.iconst 1, 1) := by decide +kernel
theorem dX3_partOf_13 : decode cX3_partOf 13 = .ok (.iload 4, 2) := by decide +kernel
theorem dX3_partOf_15 : decode cX3_partOf 15 = .ok (.ishl, 1) := by decide +kernel
theorem dX3_partOf_16 : decode cX3_partOf 16 = .ok (.istore 6, 2) := by decide +kernel
theorem dX3_partOf_18 : decode cX3_partOf 18 = .ok (.iload 5, 2) := by decide +kernel
theorem dX3_partOf_20 : decode cX3_partOf 20 = .ok (.iload 6, 2) := by decide +kernel
theorem dX3_partOf_22 : decode cX3_partOf 22 = .ok (.iand, 1) := by decide +kernel
theorem dX3_partOf_23 : decode cX3_partOf 23 = .ok (.ifCond .ne 5, 3) := by decide +kernel
theorem dX3_partOf_26 : decode cX3_partOf 26 = .ok (.iconst 0, 1) := by decide +kernel
theorem dX3_partOf_27 : decode cX3_partOf 27 = .ok (.ireturn, 1) := by decide +kernel
theorem dX3_partOf_28 : decode cX3_partOf 28 = .ok (.iload 5, 2) := by decide +kernel
theorem dX3_partOf_30 : decode cX3_partOf 30 = .ok (.invokestatic 95, 3) := by decide +kernel
theorem dX3_partOf_33 : decode cX3_partOf 33 = .ok (.iconst 1, 1) := by decide +kernel
theorem dX3_partOf_34 : decode cX3_partOf 34 = .ok (.isub, 1) := by decide +kernel
theorem dX3_partOf_35 : decode cX3_partOf 35 = .ok (.istore 7, 2) := by decide +kernel
theorem dX3_partOf_37 : decode cX3_partOf 37 = .ok (.iconst 0, 1) := by decide +kernel
theorem dX3_partOf_38 : decode cX3_partOf 38 = .ok (.istore 8, 2) := by decide +kernel
theorem dX3_partOf_40 : decode cX3_partOf 40 = .ok (.iconst 0, 1) := by decide +kernel
theorem dX3_partOf_41 : decode cX3_partOf 41 = .ok (.istore 9, 2) := by decide +kernel
theorem dX3_partOf_43 : decode cX3_partOf 43 = .ok (.iload 9, 2) := by decide +kernel
theorem dX3_partOf_45 : decode cX3_partOf 45 = .ok (.bipush 16, 2) := by decide +kernel
theorem dX3_partOf_47 : decode cX3_partOf 47 = .ok (.if_icmp .ge 82, 3) := by decide +kernel
theorem dX3_partOf_50 : decode cX3_partOf 50 = .ok (.iload 9, 2) := by decide +kernel
theorem dX3_partOf_52 : decode cX3_partOf 52 = .ok (.invokestatic 95, 3) := by decide +kernel
theorem dX3_partOf_55 : decode cX3_partOf 55 = .ok (.istore 10, 2) := by decide +kernel
theorem dX3_partOf_57 : decode cX3_partOf 57 = .ok (.iload 9, 2) := by decide +kernel
theorem dX3_partOf_59 : decode cX3_partOf 59 = .ok (.iload 5, 2) := by decide +kernel
theorem dX3_partOf_61 : decode cX3_partOf 61 = .ok (.iload 6, 2) := by decide +kernel
theorem dX3_partOf_63 : decode cX3_partOf 63 = .ok (.iconst (-1), 1) := by decide +kernel
theorem dX3_partOf_64 : decode cX3_partOf 64 = .ok (.ixor, 1) := by decide +kernel
theorem dX3_partOf_65 : decode cX3_partOf 65 = .ok (.iand, 1) := by decide +kernel
theorem dX3_partOf_66 : decode cX3_partOf 66 = .ok (.iconst (-1), 1) := by decide +kernel
theorem dX3_partOf_67 : decode cX3_partOf 67 = .ok (.ixor, 1) := by decide +kernel
theorem dX3_partOf_68 : decode cX3_partOf 68 = .ok (.iand, 1) := by decide +kernel
theorem dX3_partOf_69 : decode cX3_partOf 69 = .ok (.ifCond .ne 54, 3) := by decide +kernel
theorem dX3_partOf_72 : decode cX3_partOf 72 = .ok (.iload 10, 2) := by decide +kernel
theorem dX3_partOf_74 : decode cX3_partOf 74 = .ok (.iload 7, 2) := by decide +kernel
theorem dX3_partOf_76 : decode cX3_partOf 76 = .ok (.if_icmp .gt 47, 3) := by decide +kernel
theorem dX3_partOf_79 : decode cX3_partOf 79 = .ok (.getstatic 133, 3) := by decide +kernel
theorem dX3_partOf_82 : decode cX3_partOf 82 = .ok (.iload 10, 2) := by decide +kernel
theorem dX3_partOf_84 : decode cX3_partOf 84 = .ok (.iaload, 1) := by decide +kernel
theorem dX3_partOf_85 : decode cX3_partOf 85 = .ok (.getstatic 133, 3) := by decide +kernel
theorem dX3_partOf_88 : decode cX3_partOf 88 = .ok (.iload 7, 2) := by decide +kernel
theorem dX3_partOf_90 : decode cX3_partOf 90 = .ok (.iload 10, 2) := by decide +kernel
theorem dX3_partOf_92 : decode cX3_partOf 92 = .ok (.isub, 1) := by decide +kernel
theorem dX3_partOf_93 : decode cX3_partOf 93 = .ok (.iaload, 1) := by decide +kernel
theorem dX3_partOf_94 : decode cX3_partOf 94 = .ok (.imul, 1) := by decide +kernel
theorem dX3_partOf_95 : decode cX3_partOf 95 = .ok (.istore 11, 2) := by decide +kernel
theorem dX3_partOf_97 : decode cX3_partOf 97 = .ok (.iload 8, 2) := by decide +kernel
theorem dX3_partOf_99 : decode cX3_partOf 99 = .ok (.iload 11, 2) := by decide +kernel
theorem dX3_partOf_101 : decode cX3_partOf 101 = .ok (.aload_n 0, 1) := by decide +kernel
theorem dX3_partOf_102 : decode cX3_partOf 102 = .ok (.aload_n 1, 1) := by decide +kernel
theorem dX3_partOf_103 : decode cX3_partOf 103 = .ok (.iload 9, 2) := by decide +kernel
theorem dX3_partOf_105 : decode cX3_partOf 105 = .ok (.iload 6, 2) := by decide +kernel
theorem dX3_partOf_107 : decode cX3_partOf 107 = .ok (.ior, 1) := by decide +kernel
theorem dX3_partOf_108 : decode cX3_partOf 108 = .ok (.invokevirtual 136, 3) := by decide +kernel
theorem dX3_partOf_111 : decode cX3_partOf 111 = .ok (.aload_n 0, 1) := by decide +kernel
theorem dX3_partOf_112 : decode cX3_partOf 112 = .ok (.aload_n 1, 1) := by decide +kernel
theorem dX3_partOf_113 : decode cX3_partOf 113 = .ok (.iload 9, 2) := by decide +kernel
theorem dX3_partOf_115 : decode cX3_partOf 115 = .ok (.invokevirtual 136, 3) := by decide +kernel
theorem dX3_partOf_118 : decode cX3_partOf 118 = .ok (.isub, 1) := by decide +kernel
theorem dX3_partOf_119 : decode cX3_partOf 119 = .ok (.imul, 1) := by decide +kernel
theorem dX3_partOf_120 : decode cX3_partOf 120 = .ok (.iadd, 1) := by decide +kernel
theorem dX3_partOf_121 : decode cX3_partOf 121 = .ok (.istore 8, 2) := by decide +kernel
theorem dX3_partOf_123 : decode cX3_partOf 123 = .ok (.iinc 9 1, 3) := by decide +kernel
theorem dX3_partOf_126 : decode cX3_partOf 126 = .ok (.goto (-83), 3) := by decide +kernel
theorem dX3_partOf_129 : decode cX3_partOf 129 = .ok (.iload 8, 2) := by decide +kernel
theorem dX3_partOf_131 : decode cX3_partOf 131 = .ok (.ireturn, 1) := by decide +kernel
theorem dX3_leaversOf_0 : decode cX3_leaversOf 0 = .ok (.aload_n 0, 1) := by decide +kernel
theorem dX3_leaversOf_1 : decode cX3_leaversOf 1 = .ok (.aload_n 2, 1) := by decide +kernel
theorem dX3_leaversOf_2 : decode cX3_leaversOf 2 = .ok (.iload_n 3, 1) := by decide +kernel
theorem dX3_leaversOf_3 : decode cX3_leaversOf 3 = .ok (.invokevirtual 82, 3) := by decide +kernel
theorem dX3_leaversOf_6 : decode cX3_leaversOf 6 = .ok (.aload_n 0, 1) := by decide +kernel
theorem dX3_leaversOf_7 : decode cX3_leaversOf 7 = .ok (.invokevirtual 91, 3) := by decide +kernel
theorem dX3_leaversOf_10 : decode cX3_leaversOf 10 = .ok (.istore 4, 2) := by decide +kernel
theorem dX3_leaversOf_12 : decode cX3_leaversOf 12 = .ok (.aload_n 0, 1) := by decide +kernel
theorem dX3_leaversOf_13 : decode cX3_leaversOf 13 = .ok (.getfield 20, 3) := by decide +kernel
theorem dX3_leaversOf_16 : decode cX3_leaversOf 16 = .ok (.iload_n 3, 1) := by decide +kernel
theorem dX3_leaversOf_17 : decode cX3_leaversOf 17 = .ok (.iconst 3, 1) := by decide +kernel
theorem dX3_leaversOf_18 : decode cX3_leaversOf 18 = .ok (.invokevirtual 64, 3) := by decide +kernel
theorem dX3_leaversOf_21 : decode cX3_leaversOf 21 = .ok (.i2l, 1) := by decide +kernel
theorem dX3_leaversOf_22 : decode cX3_leaversOf 22 = .ok (.lstore 5, 2) := by decide +kernel
theorem dX3_leaversOf_24 : decode cX3_leaversOf 24 = .ok (.iconst 1, 1) := by decide +kernel
theorem dX3_leaversOf_25 : decode cX3_leaversOf 25 = .ok (.istore 7, 2) := by decide +kernel
theorem dX3_leaversOf_27 : decode cX3_leaversOf 27 = .ok (.iload 7, 2) := by decide +kernel
theorem dX3_leaversOf_29 : decode cX3_leaversOf 29 = .ok (.bipush 16, 2) := by decide +kernel
theorem dX3_leaversOf_31 : decode cX3_leaversOf 31 = .ok (.if_icmp .ge 52, 3) := by decide +kernel
theorem dX3_leaversOf_34 : decode cX3_leaversOf 34 = .ok (.iload 7, 2) := by decide +kernel
theorem dX3_leaversOf_36 : decode cX3_leaversOf 36 = .ok (.iload 4, 2) := by decide +kernel
theorem dX3_leaversOf_38 : decode cX3_leaversOf 38 = .ok (.iconst (-1), 1) := by decide +kernel
theorem dX3_leaversOf_39 : decode cX3_leaversOf 39 = .ok (.ixor, 1) := by decide +kernel
theorem dX3_leaversOf_40 : decode cX3_leaversOf 40 = .ok (.iand, 1) := by decide +kernel
theorem dX3_leaversOf_41 : decode cX3_leaversOf 41 = .ok (.ifCond .ne 36, 3) := by decide +kernel
theorem dX3_leaversOf_44 : decode cX3_leaversOf 44 = .ok (.aload_n 0, 1) := by decide +kernel
theorem dX3_leaversOf_45 : decode cX3_leaversOf 45 = .ok (.aload_n 1, 1) := by decide +kernel
theorem dX3_leaversOf_46 : decode cX3_leaversOf 46 = .ok (.iload 7, 2) := by decide +kernel
theorem dX3_leaversOf_48 : decode cX3_leaversOf 48 = .ok (.invokevirtual 136, 3) := by decide +kernel
theorem dX3_leaversOf_51 : decode cX3_leaversOf 51 = .ok (.i2l, 1) := by decide +kernel
theorem dX3_leaversOf_52 : decode cX3_leaversOf 52 = .ok (.aload_n 0, 1) := by decide +kernel
theorem dX3_leaversOf_53 : decode cX3_leaversOf 53 = .ok (.iload 4, 2) := by decide +kernel
theorem dX3_leaversOf_55 : decode cX3_leaversOf 55 = .ok (.invokevirtual 130, 3) := by decide +kernel
theorem dX3_leaversOf_58 : decode cX3_leaversOf 58 = .ok (.i2l, 1) := by decide +kernel
theorem dX3_leaversOf_59 : decode cX3_leaversOf 59 = .ok (.lmul, 1) := by decide +kernel
theorem dX3_leaversOf_60 : decode cX3_leaversOf 60 = .ok (.lload 5, 2) := by decide +kernel
theorem dX3_leaversOf_62 : decode cX3_leaversOf 62 = .ok (.aload_n 0, 1) := by decide +kernel
theorem dX3_leaversOf_63 : decode cX3_leaversOf 63 = .ok (.iload 7, 2) := by decide +kernel
theorem dX3_leaversOf_65 : decode cX3_leaversOf 65 = .ok (.invokevirtual 130, 3) := by decide +kernel
theorem dX3_leaversOf_68 : decode cX3_leaversOf 68 = .ok (.i2l, 1) := by decide +kernel
theorem dX3_leaversOf_69 : decode cX3_leaversOf 69 = .ok (.lmul, 1) := by decide +kernel
theorem dX3_leaversOf_70 : decode cX3_leaversOf 70 = .ok (.lcmp, 1) := by decide +kernel
theorem dX3_leaversOf_71 : decode cX3_leaversOf 71 = .ok (.ifCond .le 6, 3) := by decide +kernel
theorem dX3_leaversOf_74 : decode cX3_leaversOf 74 = .ok (.iload 7, 2) := by decide +kernel
theorem dX3_leaversOf_76 : decode cX3_leaversOf 76 = .ok (.ireturn, 1) := by decide +kernel
theorem dX3_leaversOf_77 : decode cX3_leaversOf 77 = .ok (.iinc 7 1, 3) := by decide +kernel
theorem dX3_leaversOf_80 : decode cX3_leaversOf 80 = .ok (.goto (-53), 3) := by decide +kernel
theorem dX3_leaversOf_83 : decode cX3_leaversOf 83 = .ok (.iconst 0, 1) := by decide +kernel
theorem dX3_leaversOf_84 : decode cX3_leaversOf 84 = .ok (.ireturn, 1) := by decide +kernel
theorem dX4_init_0 : decode cX4_init 0 = .ok (.aload_n 0, 1) := by decide +kernel
theorem dX4_init_1 : decode cX4_init 1 = .ok (.invokespecial 3, 3) := by decide +kernel
theorem dX4_init_4 : decode cX4_init 4 = .ok (.aload_n 0, 1) := by decide +kernel
theorem dX4_init_5 : decode cX4_init 5 = .ok (.iconst 4, 1) := by decide +kernel
theorem dX4_init_6 : decode cX4_init 6 = .ok (.newarray .long, 2) := by decide +kernel
theorem dX4_init_8 : decode cX4_init 8 = .ok (.putfield 9, 3) := by decide +kernel
theorem dX4_init_11 : decode cX4_init 11 = .ok (.aload_n 0, 1) := by decide +kernel
theorem dX4_init_12 : decode cX4_init 12 = .ok (.iconst 4, 1) := by decide +kernel
theorem dX4_init_13 : decode cX4_init 13 = .ok (.newarray .long, 2) := by decide +kernel
theorem dX4_init_15 : decode cX4_init 15 = .ok (.putfield 15, 3) := by decide +kernel
theorem dX4_init_18 : decode cX4_init 18 = .ok (.aload_n 0, 1) := by decide +kernel
theorem dX4_init_19 : decode cX4_init 19 = .ok (.iconst 4, 1) := by decide +kernel
theorem dX4_init_20 : decode cX4_init 20 = .ok (.newarray .int, 2) := by decide +kernel
theorem dX4_init_22 : decode cX4_init 22 = .ok (.putfield 18, 3) := by decide +kernel
theorem dX4_init_25 : decode cX4_init 25 = .ok (.aload_n 0, 1) := by decide +kernel
theorem dX4_init_26 : decode cX4_init 26 = .ok (.iconst 4, 1) := by decide +kernel
theorem dX4_init_27 : decode cX4_init 27 = .ok (.newarray .int, 2) := by decide +kernel
theorem dX4_init_29 : decode cX4_init 29 = .ok (.putfield 22, 3) := by decide +kernel
theorem dX4_init_32 : decode cX4_init 32 = .ok (.aload_n 0, 1) := by decide +kernel
theorem dX4_init_33 : decode cX4_init 33 = .ok (.iconst 4, 1) := by decide +kernel
theorem dX4_init_34 : decode cX4_init 34 = .ok (.newarray .int, 2) := by decide +kernel
theorem dX4_init_36 : decode cX4_init 36 = .ok (.putfield 25, 3) := by decide +kernel
theorem dX4_init_39 : decode cX4_init 39 = .ok (.aload_n 0, 1) := by decide +kernel
theorem dX4_init_40 : decode cX4_init 40 = .ok (.iconst 4, 1) := by decide +kernel
theorem dX4_init_41 : decode cX4_init 41 = .ok (.newarray .int, 2) := by decide +kernel
theorem dX4_init_43 : decode cX4_init 43 = .ok (.putfield 28, 3) := by decide +kernel
theorem dX4_init_46 : decode cX4_init 46 = .ok (.return_, 1) := by decide +kernel
theorem dX4_search_0 : decode cX4_search 0 = .ok (.aload_n 1, 1) := by decide +kernel
theorem dX4_search_1 : decode cX4_search 1 = .ok (.getfield 31, 3) := by decide +kernel
theorem dX4_search_4 : decode cX4_search 4 = .ok (.getfield 37, 3) := by decide +kernel
theorem dX4_search_7 : decode cX4_search 7 = .ok (.iconst 4, 1) := by decide +kernel
theorem dX4_search_8 : decode cX4_search 8 = .ok (.invokestatic 43, 3) := by decide +kernel
theorem dX4_search_11 : decode cX4_search 11 = .ok (.istore_n 3, 1) := by decide +kernel
theorem dX4_search_12 : decode cX4_search 12 = .ok (.aload_n 0, 1) := by decide +kernel
theorem dX4_search_13 : decode cX4_search 13 = .ok (.iload_n 3, 1) := by decide +kernel
theorem dX4_search_14 : decode cX4_search 14 = .ok (.ifCond .ne 7, 3) := by decide +kernel
theorem dX4_search_17 : decode cX4_search 17 = .ok (.iconst (-1), 1) := by decide +kernel
theorem dX4_search_18 : decode cX4_search 18 = .ok (.goto 5, 3) := by decide +kernel
theorem dX4_search_21 : decode cX4_search 21 = .ok (.bipush (-2), 2) := by decide +kernel
theorem dX4_search_23 : decode cX4_search 23 = .ok (.putfield 49, 3) := by decide +kernel
theorem dX4_search_26 : decode cX4_search 26 = .ok (.iconst 0, 1) := by decide +kernel
theorem dX4_search_27 : decode cX4_search 27 = .ok (.istore 4, 2) := by decide +kernel
theorem dX4_search_29 : decode cX4_search 29 = .ok (.iload 4, 2) := by decide +kernel
theorem dX4_search_31 : decode cX4_search 31 = .ok (.iload_n 3, 1) := by decide +kernel
theorem dX4_search_32 : decode cX4_search 32 = .ok (.if_icmp .ge 32, 3) := by decide +kernel
theorem dX4_search_35 : decode cX4_search 35 = .ok (.aload_n 0, 1) := by decide +kernel
theorem dX4_search_36 : decode cX4_search 36 = .ok (.getfield 9, 3) := by decide +kernel
theorem dX4_search_39 : decode cX4_search 39 = .ok (.iload 4, 2) := by decide +kernel
theorem dX4_search_41 : decode cX4_search 41 = .ok (.aload_n 1, 1) := by decide +kernel
theorem dX4_search_42 : decode cX4_search 42 = .ok (.aload_n 2, 1) := by decide +kernel
theorem dX4_search_43 : decode cX4_search 43 = .ok (.iload 4, 2) := by decide +kernel
theorem dX4_search_45 : decode cX4_search 45 = .ok (.invokestatic 52, 3) := by decide +kernel
theorem dX4_search_48 : decode cX4_search 48 = .ok (.lastore, 1) := by decide +kernel
theorem dX4_search_49 : decode cX4_search 49 = .ok (.aload_n 0, 1) := by decide +kernel
theorem dX4_search_50 : decode cX4_search 50 = .ok (.getfield 18, 3) := by decide +kernel
theorem dX4_search_53 : decode cX4_search 53 = .ok (.iload 4, 2) := by decide +kernel
theorem dX4_search_55 : decode cX4_search 55 = .ok (.iload 4, 2) := by decide +kernel
theorem dX4_search_57 : decode cX4_search 57 = .ok (.iastore, 1) := by decide +kernel
theorem dX4_search_58 : decode cX4_search 58 = .ok (.iinc 4 1, 3) := by decide +kernel
theorem dX4_search_61 : decode cX4_search 61 = .ok (.goto (-32), 3) := by decide +kernel
theorem dX4_search_64 : decode cX4_search 64 = .ok (.iload_n 3, 1) := by decide +kernel
theorem dX4_search_65 : decode cX4_search 65 = .ok (.ifCond .le 7, 3) := by decide +kernel
theorem dX4_search_68 : decode cX4_search 68 = .ok (.iconst 1, 1) := by decide +kernel
theorem dX4_search_69 : decode cX4_search 69 = .ok (.goto 4, 3) := by decide +kernel
theorem dX4_search_72 : decode cX4_search 72 = .ok (.iconst 0, 1) := by decide +kernel
theorem dX4_search_73 : decode cX4_search 73 = .ok (.istore 4, 2) := by decide +kernel
theorem dX4_search_75 : decode cX4_search 75 = .ok (.iconst 0, 1) := by decide +kernel
theorem dX4_search_76 : decode cX4_search 76 = .ok (.istore 5, 2) := by decide +kernel
theorem dX4_search_78 : decode cX4_search 78 = .ok (.iload 5, 2) := by decide +kernel
theorem dX4_search_80 : decode cX4_search 80 = .ok (.bipush 24, 2) := by decide +kernel
theorem dX4_search_82 : decode cX4_search 82 = .ok (.if_icmp .ge 88, 3) := by decide +kernel
theorem dX4_search_85 : decode cX4_search 85 = .ok (.iload 4, 2) := by decide +kernel
theorem dX4_search_87 : decode cX4_search 87 = .ok (.ifCond .eq 83, 3) := by decide +kernel
theorem dX4_search_90 : decode cX4_search 90 = .ok (.aload_n 0, 1) := by decide +kernel
theorem dX4_search_91 : decode cX4_search 91 = .ok (.aload_n 1, 1) := by decide +kernel
theorem dX4_search_92 : decode cX4_search 92 = .ok (.iload_n 3, 1) := by decide +kernel
theorem dX4_search_93 : decode cX4_search 93 = .ok (.invokevirtual 56, 3) := by decide +kernel
theorem dX4_search_96 : decode cX4_search 96 = .ok (.istore 6, 2) := by decide +kernel
theorem dX4_search_98 : decode cX4_search 98 = .ok (.iload 6, 2) := by decide +kernel
theorem dX4_search_100 : decode cX4_search 100 = .ok (.bipush (-2), 2) := by decide +kernel
theorem dX4_search_102 : decode cX4_search 102 = .ok (.if_icmp .eq 55, 3) := by decide +kernel
theorem dX4_search_105 : decode cX4_search 105 = .ok (.aload_n 0, 1) := by decide +kernel
theorem dX4_search_106 : decode cX4_search 106 = .ok (.getfield 49, 3) := by decide +kernel
theorem dX4_search_109 : decode cX4_search 109 = .ok (.bipush (-2), 2) := by decide +kernel
theorem dX4_search_111 : decode cX4_search 111 = .ok (.if_icmp .eq 12, 3) := by decide +kernel
theorem dX4_search_114 : decode cX4_search 114 = .ok (.iload 6, 2) := by decide +kernel
theorem dX4_search_116 : decode cX4_search 116 = .ok (.aload_n 0, 1) := by decide +kernel
theorem dX4_search_117 : decode cX4_search 117 = .ok (.getfield 49, 3) := by decide +kernel
theorem dX4_search_120 : decode cX4_search 120 = .ok (.if_icmp .ge 37, 3) := by decide +kernel
theorem dX4_search_123 : decode cX4_search 123 = .ok (.aload_n 0, 1) := by decide +kernel
theorem dX4_search_124 : decode cX4_search 124 = .ok (.iload 6, 2) := by decide +kernel
theorem dX4_search_126 : decode cX4_search 126 = .ok (.putfield 49, 3) := by decide +kernel
theorem dX4_search_129 : decode cX4_search 129 = .ok (.aload_n 0, 1) := by decide +kernel
theorem dX4_search_130 : decode cX4_search 130 = .ok (.getfield 18, 3) := by decide +kernel
theorem dX4_search_133 : decode cX4_search 133 = .ok (.iconst 0, 1) := by decide +kernel
theorem dX4_search_134 : decode cX4_search 134 = .ok (.aload_n 0, 1) := by decide +kernel
theorem dX4_search_135 : decode cX4_search 135 = .ok (.getfield 25, 3) := by decide +kernel
theorem dX4_search_138 : decode cX4_search 138 = .ok (.iconst 0, 1) := by decide +kernel
theorem dX4_search_139 : decode cX4_search 139 = .ok (.iconst 4, 1) := by decide +kernel
theorem dX4_search_140 : decode cX4_search 140 = .ok (.invokestatic 60, 3) := by decide +kernel
theorem dX4_search_143 : decode cX4_search 143 = .ok (.aload_n 0, 1) := by decide +kernel
theorem dX4_search_144 : decode cX4_search 144 = .ok (.getfield 22, 3) := by decide +kernel
theorem dX4_search_147 : decode cX4_search 147 = .ok (.iconst 0, 1) := by decide +kernel
theorem dX4_search_148 : decode cX4_search 148 = .ok (.aload_n 0, 1) := by decide +kernel
theorem dX4_search_149 : decode cX4_search 149 = .ok (.getfield 28, 3) := by decide +kernel
theorem dX4_search_152 : decode cX4_search 152 = .ok (.iconst 0, 1) := by decide +kernel
theorem dX4_search_153 : decode cX4_search 153 = .ok (.iconst 4, 1) := by decide +kernel
theorem dX4_search_154 : decode cX4_search 154 = .ok (.invokestatic 60, 3) := by decide +kernel
theorem dX4_search_157 : decode cX4_search 157 = .ok (.aload_n 0, 1) := by decide +kernel
theorem dX4_search_158 : decode cX4_search 158 = .ok (.iload_n 3, 1) := by decide +kernel
theorem dX4_search_159 : decode cX4_search 159 = .ok (.invokevirtual 66, 3) := by decide +kernel
theorem dX4_search_162 : decode cX4_search 162 = .ok (.istore 4, 2) := by decide +kernel
theorem dX4_search_164 : decode cX4_search 164 = .ok (.iinc 5 1, 3) := by decide +kernel
theorem dX4_search_167 : decode cX4_search 167 = .ok (.goto (-89), 3) := by decide +kernel
theorem dX4_search_170 : decode cX4_search 170 = .ok (.return_, 1) := by decide +kernel
theorem dX4_taskAt_0 : decode cX4_taskAt 0 = .ok (.iload_n 1, 1) := by decide +kernel
theorem dX4_taskAt_1 : decode cX4_taskAt 1 = .ok (.ifCond .lt 17, 3) := by decide +kernel
theorem dX4_taskAt_4 : decode cX4_taskAt 4 = .ok (.iload_n 1, 1) := by decide +kernel
theorem dX4_taskAt_5 : decode cX4_taskAt 5 = .ok (.iconst 4, 1) := by decide +kernel
theorem dX4_taskAt_6 : decode cX4_taskAt 6 = .ok (.if_icmp .ge 12, 3) := by decide +kernel
theorem dX4_taskAt_9 : decode cX4_taskAt 9 = .ok (.aload_n 0, 1) := by decide +kernel
theorem dX4_taskAt_10 : decode cX4_taskAt 10 = .ok (.getfield 25, 3) := by decide +kernel
theorem dX4_taskAt_13 : decode cX4_taskAt 13 = .ok (.iload_n 1, 1) := by decide +kernel
theorem dX4_taskAt_14 : decode cX4_taskAt 14 = .ok (.iaload, 1) := by decide +kernel
theorem dX4_taskAt_15 : decode cX4_taskAt 15 = .ok (.goto 4, 3) := by decide +kernel
theorem dX4_taskAt_18 : decode cX4_taskAt 18 = .ok (.iconst (-1), 1) := by decide +kernel
theorem dX4_taskAt_19 : decode cX4_taskAt 19 = .ok (.ireturn, 1) := by decide +kernel
theorem dX4_startAt_0 : decode cX4_startAt 0 = .ok (.iload_n 1, 1) := by decide +kernel
theorem dX4_startAt_1 : decode cX4_startAt 1 = .ok (.ifCond .lt 17, 3) := by decide +kernel
theorem dX4_startAt_4 : decode cX4_startAt 4 = .ok (.iload_n 1, 1) := by decide +kernel
theorem dX4_startAt_5 : decode cX4_startAt 5 = .ok (.iconst 4, 1) := by decide +kernel
theorem dX4_startAt_6 : decode cX4_startAt 6 = .ok (.if_icmp .ge 12, 3) := by decide +kernel
theorem dX4_startAt_9 : decode cX4_startAt 9 = .ok (.aload_n 0, 1) := by decide +kernel
theorem dX4_startAt_10 : decode cX4_startAt 10 = .ok (.getfield 28, 3) := by decide +kernel
theorem dX4_startAt_13 : decode cX4_startAt 13 = .ok (.iload_n 1, 1) := by decide +kernel
theorem dX4_startAt_14 : decode cX4_startAt 14 = .ok (.iaload, 1) := by decide +kernel
theorem dX4_startAt_15 : decode cX4_startAt 15 = .ok (.goto 4, 3) := by decide +kernel
theorem dX4_startAt_18 : decode cX4_startAt 18 = .ok (.iconst (-1), 1) := by decide +kernel
theorem dX4_startAt_19 : decode cX4_startAt 19 = .ok (.ireturn, 1) := by decide +kernel
theorem dX4_forbiddenMinutes_0 : decode cX4_forbiddenMinutes 0 = .ok (.aload_n 0, 1) := by decide +kernel
theorem dX4_forbiddenMinutes_1 : decode cX4_forbiddenMinutes 1 = .ok (.getfield 31, 3) := by decide +kernel
theorem dX4_forbiddenMinutes_4 : decode cX4_forbiddenMinutes 4 = .ok (.iload_n 2, 1) := by decide +kernel
theorem dX4_forbiddenMinutes_5 : decode cX4_forbiddenMinutes 5 = .ok (.iconst 0, 1) := by decide +kernel
theorem dX4_forbiddenMinutes_6 : decode cX4_forbiddenMinutes 6 = .ok (.invokevirtual 70, 3) := by decide +kernel
theorem dX4_forbiddenMinutes_9 : decode cX4_forbiddenMinutes 9 = .ok (.istore_n 3, 1) := by decide +kernel
theorem dX4_forbiddenMinutes_10 : decode cX4_forbiddenMinutes 10 = .ok (.aload_n 0, 1) := by decide +kernel
theorem dX4_forbiddenMinutes_11 : decode cX4_forbiddenMinutes 11 = .ok (.getfield 31, 3) := by decide +kernel
theorem dX4_forbiddenMinutes_14 : decode cX4_forbiddenMinutes 14 = .ok (.iload_n 2, 1) := by decide +kernel
theorem dX4_forbiddenMinutes_15 : decode cX4_forbiddenMinutes 15 = .ok (.iconst 1, 1) := by decide +kernel
theorem dX4_forbiddenMinutes_16 : decode cX4_forbiddenMinutes 16 = .ok (.invokevirtual 70, 3) := by decide +kernel
theorem dX4_forbiddenMinutes_19 : decode cX4_forbiddenMinutes 19 = .ok (.istore 4, 2) := by decide +kernel
theorem dX4_forbiddenMinutes_21 : decode cX4_forbiddenMinutes 21 = .ok (.aload_n 0, 1) := by decide +kernel
theorem dX4_forbiddenMinutes_22 : decode cX4_forbiddenMinutes 22 = .ok (.getfield 31, 3) := by decide +kernel
theorem dX4_forbiddenMinutes_25 : decode cX4_forbiddenMinutes 25 = .ok (.iload_n 2, 1) := by decide +kernel
theorem dX4_forbiddenMinutes_26 : decode cX4_forbiddenMinutes 26 = .ok (.iconst 3, 1) := by decide +kernel
theorem dX4_forbiddenMinutes_27 : decode cX4_forbiddenMinutes 27 = .ok (.invokevirtual 70, 3) := by decide +kernel
theorem dX4_forbiddenMinutes_30 : decode cX4_forbiddenMinutes 30 = .ok (.istore 5, 2) := by decide +kernel
theorem dX4_forbiddenMinutes_32 : decode cX4_forbiddenMinutes 32 = .ok (.lconst 0, 1) := by decide +kernel
theorem dX4_forbiddenMinutes_33 : decode cX4_forbiddenMinutes 33 = .ok (.lstore 6, 2) := by decide +kernel
theorem dX4_forbiddenMinutes_35 : decode cX4_forbiddenMinutes 35 = .ok (.iconst 0, 1) := by decide +kernel
theorem dX4_forbiddenMinutes_36 : decode cX4_forbiddenMinutes 36 = .ok (.istore 8, 2) := by decide +kernel
theorem dX4_forbiddenMinutes_38 : decode cX4_forbiddenMinutes 38 = .ok (.iload 8, 2) := by decide +kernel
theorem dX4_forbiddenMinutes_40 : decode cX4_forbiddenMinutes 40 = .ok (.aload_n 0, 1) := by decide +kernel
theorem dX4_forbiddenMinutes_41 : decode cX4_forbiddenMinutes 41 = .ok (.getfield 73, 3) := by decide +kernel
theorem dX4_forbiddenMinutes_44 : decode cX4_forbiddenMinutes 44 = .ok (.getfield 37, 3) := by decide +kernel
theorem dX4_forbiddenMinutes_47 : decode cX4_forbiddenMinutes 47 = .ok (.if_icmp .ge 75, 3) := by decide +kernel
theorem dX4_forbiddenMinutes_50 : decode cX4_forbiddenMinutes 50 = .ok (.aload_n 1, 1) := by decide +kernel
theorem dX4_forbiddenMinutes_51 : decode cX4_forbiddenMinutes 51 = .ok (.aload_n 0, 1) := by decide +kernel
theorem dX4_forbiddenMinutes_52 : decode cX4_forbiddenMinutes 52 = .ok (.iload 4, 2) := by decide +kernel
theorem dX4_forbiddenMinutes_54 : decode cX4_forbiddenMinutes 54 = .ok (.iconst 0, 1) := by decide +kernel
theorem dX4_forbiddenMinutes_55 : decode cX4_forbiddenMinutes 55 = .ok (.bipush 47, 2) := by decide +kernel
theorem dX4_forbiddenMinutes_57 : decode cX4_forbiddenMinutes 57 = .ok (.iload 5, 2) := by decide +kernel
theorem dX4_forbiddenMinutes_59 : decode cX4_forbiddenMinutes 59 = .ok (.iload 8, 2) := by decide +kernel
theorem dX4_forbiddenMinutes_61 : decode cX4_forbiddenMinutes 61 = .ok (.invokevirtual 76, 3) := by decide +kernel
theorem dX4_forbiddenMinutes_64 : decode cX4_forbiddenMinutes 64 = .ok (.lstore 9, 2) := by decide +kernel
theorem dX4_forbiddenMinutes_66 : decode cX4_forbiddenMinutes 66 = .ok (.iconst 0, 1) := by decide +kernel
theorem dX4_forbiddenMinutes_67 : decode cX4_forbiddenMinutes 67 = .ok (.istore 11, 2) := by decide +kernel
theorem dX4_forbiddenMinutes_69 : decode cX4_forbiddenMinutes 69 = .ok (.iload 11, 2) := by decide +kernel
theorem dX4_forbiddenMinutes_71 : decode cX4_forbiddenMinutes 71 = .ok (.bipush 48, 2) := by decide +kernel
theorem dX4_forbiddenMinutes_73 : decode cX4_forbiddenMinutes 73 = .ok (.if_icmp .ge 43, 3) := by decide +kernel
theorem dX4_forbiddenMinutes_76 : decode cX4_forbiddenMinutes 76 = .ok (.lload 9, 2) := by decide +kernel
theorem dX4_forbiddenMinutes_78 : decode cX4_forbiddenMinutes 78 = .ok (.iload 11, 2) := by decide +kernel
theorem dX4_forbiddenMinutes_80 : decode cX4_forbiddenMinutes 80 = .ok (.lshr, 1) := by decide +kernel
theorem dX4_forbiddenMinutes_81 : decode cX4_forbiddenMinutes 81 = .ok (.lconst 1, 1) := by decide +kernel
theorem dX4_forbiddenMinutes_82 : decode cX4_forbiddenMinutes 82 = .ok (.land, 1) := by decide +kernel
theorem dX4_forbiddenMinutes_83 : decode cX4_forbiddenMinutes 83 = .ok (.lconst 1, 1) := by decide +kernel
theorem dX4_forbiddenMinutes_84 : decode cX4_forbiddenMinutes 84 = .ok (.lcmp, 1) := by decide +kernel
theorem dX4_forbiddenMinutes_85 : decode cX4_forbiddenMinutes 85 = .ok (.ifCond .ne 25, 3) := by decide +kernel
theorem dX4_forbiddenMinutes_88 : decode cX4_forbiddenMinutes 88 = .ok (.aload_n 1, 1) := by decide +kernel
theorem dX4_forbiddenMinutes_89 : decode cX4_forbiddenMinutes 89 = .ok (.aload_n 0, 1) := by decide +kernel
theorem dX4_forbiddenMinutes_90 : decode cX4_forbiddenMinutes 90 = .ok (.iload_n 3, 1) := by decide +kernel
theorem dX4_forbiddenMinutes_91 : decode cX4_forbiddenMinutes 91 = .ok (.iload 8, 2) := by decide +kernel
theorem dX4_forbiddenMinutes_93 : decode cX4_forbiddenMinutes 93 = .ok (.iload 11, 2) := by decide +kernel
theorem dX4_forbiddenMinutes_95 : decode cX4_forbiddenMinutes 95 = .ok (.invokevirtual 82, 3) := by decide +kernel
theorem dX4_forbiddenMinutes_98 : decode cX4_forbiddenMinutes 98 = .ok (.ifCond .eq 12, 3) := by decide +kernel
theorem dX4_forbiddenMinutes_101 : decode cX4_forbiddenMinutes 101 = .ok (.lload 6, 2) := by decide +kernel
theorem dX4_forbiddenMinutes_103 : decode cX4_forbiddenMinutes 103 = .ok (.lconst 1, 1) := by decide +kernel
theorem dX4_forbiddenMinutes_104 : decode cX4_forbiddenMinutes 104 = .ok (.iload 11, 2) := by decide +kernel
theorem dX4_forbiddenMinutes_106 : decode cX4_forbiddenMinutes 106 = .ok (.lshl, 1) := by decide +kernel
theorem dX4_forbiddenMinutes_107 : decode cX4_forbiddenMinutes 107 = .ok (.lor, 1) := by decide +kernel
theorem dX4_forbiddenMinutes_108 : decode cX4_forbiddenMinutes 108 = .ok (.lstore 6, 2) := by decide +kernel
theorem dX4_forbiddenMinutes_110 : decode cX4_forbiddenMinutes 110 = .ok (.iinc 11 1, 3) := by decide +kernel
theorem dX4_forbiddenMinutes_113 : decode cX4_forbiddenMinutes 113 = .ok (.goto (-44), 3) := by decide +kernel
theorem dX4_forbiddenMinutes_116 : decode cX4_forbiddenMinutes 116 = .ok (.iinc 8 1, 3) := by decide +kernel
theorem dX4_forbiddenMinutes_119 : decode cX4_forbiddenMinutes 119 = .ok (.goto (-81), 3) := by decide +kernel
theorem dX4_forbiddenMinutes_122 : decode cX4_forbiddenMinutes 122 = .ok (.lload 6, 2) := by decide +kernel
theorem dX4_forbiddenMinutes_124 : decode cX4_forbiddenMinutes 124 = .ok (.lreturn, 1) := by decide +kernel
theorem dX4_endOfOrder_0 : decode cX4_endOfOrder 0 = .ok (.iconst 0, 1) := by decide +kernel
theorem dX4_endOfOrder_1 : decode cX4_endOfOrder 1 = .ok (.istore_n 3, 1) := by decide +kernel
theorem dX4_endOfOrder_2 : decode cX4_endOfOrder 2 = .ok (.iload_n 3, 1) := by decide +kernel
theorem dX4_endOfOrder_3 : decode cX4_endOfOrder 3 = .ok (.iconst 4, 1) := by decide +kernel
theorem dX4_endOfOrder_4 : decode cX4_endOfOrder 4 = .ok (.if_icmp .ge 16, 3) := by decide +kernel
theorem dX4_endOfOrder_7 : decode cX4_endOfOrder 7 = .ok (.aload_n 0, 1) := by decide +kernel
theorem dX4_endOfOrder_8 : decode cX4_endOfOrder 8 = .ok (.getfield 15, 3) := by decide +kernel
theorem dX4_endOfOrder_11 : decode cX4_endOfOrder 11 = .ok (.iload_n 3, 1) := by decide +kernel
theorem dX4_endOfOrder_12 : decode cX4_endOfOrder 12 = .ok (.lconst 0, 1) := by decide +kernel
theorem dX4_endOfOrder_13 : decode cX4_endOfOrder 13 = .ok (.lastore, 1) := by decide +kernel
theorem dX4_endOfOrder_14 : decode cX4_endOfOrder 14 = .ok (.iinc 3 1, 3) := by decide +kernel
theorem dX4_endOfOrder_17 : decode cX4_endOfOrder 17 = .ok (.goto (-15), 3) := by decide +kernel
theorem dX4_endOfOrder_20 : decode cX4_endOfOrder 20 = .ok (.iconst 0, 1) := by decide +kernel
theorem dX4_endOfOrder_21 : decode cX4_endOfOrder 21 = .ok (.istore_n 3, 1) := by decide +kernel
theorem dX4_endOfOrder_22 : decode cX4_endOfOrder 22 = .ok (.iconst 0, 1) := by decide +kernel
theorem dX4_endOfOrder_23 : decode cX4_endOfOrder 23 = .ok (.istore 4, 2) := by decide +kernel
theorem dX4_endOfOrder_25 : decode cX4_endOfOrder 25 = .ok (.iload 4, 2) := by decide +kernel
theorem dX4_endOfOrder_27 : decode cX4_endOfOrder 27 = .ok (.iload_n 2, 1) := by decide +kernel
theorem dX4_endOfOrder_28 : decode cX4_endOfOrder 28 = .ok (.if_icmp .ge 145, 3) := by decide +kernel
theorem dX4_endOfOrder_31 : decode cX4_endOfOrder 31 = .ok (.iload 4, 2) := by decide +kernel
theorem dX4_endOfOrder_33 : decode cX4_endOfOrder 33 = .ok (.iconst 4, 1) := by decide +kernel
theorem dX4_endOfOrder_34 : decode cX4_endOfOrder 34 = .ok (.if_icmp .ge 139, 3) := by decide +kernel
theorem dX4_endOfOrder_37 : decode cX4_endOfOrder 37 = .ok (.aload_n 0, 1) := by decide +kernel
theorem dX4_endOfOrder_38 : decode cX4_endOfOrder 38 = .ok (.getfield 18, 3) := by decide +kernel
theorem dX4_endOfOrder_41 : decode cX4_endOfOrder 41 = .ok (.iload 4, 2) := by decide +kernel
theorem dX4_endOfOrder_43 : decode cX4_endOfOrder 43 = .ok (.iaload, 1) := by decide +kernel
theorem dX4_endOfOrder_44 : decode cX4_endOfOrder 44 = .ok (.istore 5, 2) := by decide +kernel
theorem dX4_endOfOrder_46 : decode cX4_endOfOrder 46 = .ok (.aload_n 1, 1) := by decide +kernel
theorem dX4_endOfOrder_47 : decode cX4_endOfOrder 47 = .ok (.getfield 31, 3) := by decide +kernel
theorem dX4_endOfOrder_50 : decode cX4_endOfOrder 50 = .ok (.iload 5, 2) := by decide +kernel
theorem dX4_endOfOrder_52 : decode cX4_endOfOrder 52 = .ok (.iconst 0, 1) := by decide +kernel
theorem dX4_endOfOrder_53 : decode cX4_endOfOrder 53 = .ok (.invokevirtual 70, 3) := by decide +kernel
theorem dX4_endOfOrder_56 : decode cX4_endOfOrder 56 = .ok (.istore 6, 2) := by decide +kernel
theorem dX4_endOfOrder_58 : decode cX4_endOfOrder 58 = .ok (.aload_n 1, 1) := by decide +kernel
theorem dX4_endOfOrder_59 : decode cX4_endOfOrder 59 = .ok (.getfield 31, 3) := by decide +kernel
theorem dX4_endOfOrder_62 : decode cX4_endOfOrder 62 = .ok (.iload 5, 2) := by decide +kernel
theorem dX4_endOfOrder_64 : decode cX4_endOfOrder 64 = .ok (.iconst 2, 1) := by decide +kernel
theorem dX4_endOfOrder_65 : decode cX4_endOfOrder 65 = .ok (.invokevirtual 70, 3) := by decide +kernel
theorem dX4_endOfOrder_68 : decode cX4_endOfOrder 68 = .ok (.istore 7, 2) := by decide +kernel
theorem dX4_endOfOrder_70 : decode cX4_endOfOrder 70 = .ok (.iload 5, 2) := by decide +kernel
theorem dX4_endOfOrder_72 : decode cX4_endOfOrder 72 = .ok (.ifCond .lt 20, 3) := by decide +kernel
theorem dX4_endOfOrder_75 : decode cX4_endOfOrder 75 = .ok (.iload 5, 2) := by decide +kernel
theorem dX4_endOfOrder_77 : decode cX4_endOfOrder 77 = .ok (.iconst 4, 1) := by decide +kernel
theorem dX4_endOfOrder_78 : decode cX4_endOfOrder 78 = .ok (.if_icmp .ge 14, 3) := by decide +kernel
theorem dX4_endOfOrder_81 : decode cX4_endOfOrder 81 = .ok (.iload 6, 2) := by decide +kernel
theorem dX4_endOfOrder_83 : decode cX4_endOfOrder 83 = .ok (.ifCond .lt 9, 3) := by decide +kernel
theorem dX4_endOfOrder_86 : decode cX4_endOfOrder 86 = .ok (.iload 6, 2) := by decide +kernel
theorem dX4_endOfOrder_88 : decode cX4_endOfOrder 88 = .ok (.iconst 4, 1) := by decide +kernel
theorem dX4_endOfOrder_89 : decode cX4_endOfOrder 89 = .ok (.if_icmp .lt 6, 3) := by decide +kernel
theorem dX4_endOfOrder_92 : decode cX4_endOfOrder 92 = .ok (.bipush (-2), 2) := by decide +kernel
theorem dX4_endOfOrder_94 : decode cX4_endOfOrder 94 = .ok (.ireturn, 1) := by decide +kernel
theorem dX4_endOfOrder_95 : decode cX4_endOfOrder 95 = .ok (.aload_n 0, 1) := by decide +kernel
theorem dX4_endOfOrder_96 : decode cX4_endOfOrder 96 = .ok (.getfield 9, 3) := by decide +kernel
theorem dX4_endOfOrder_99 : decode cX4_endOfOrder 99 = .ok (.iload 5, 2) := by decide +kernel
theorem dX4_endOfOrder_101 : decode cX4_endOfOrder 101 = .ok (.laload, 1) := by decide +kernel
theorem dX4_endOfOrder_102 : decode cX4_endOfOrder 102 = .ok (.aload_n 0, 1) := by decide +kernel
theorem dX4_endOfOrder_103 : decode cX4_endOfOrder 103 = .ok (.getfield 15, 3) := by decide +kernel
theorem dX4_endOfOrder_106 : decode cX4_endOfOrder 106 = .ok (.iload 6, 2) := by decide +kernel
theorem dX4_endOfOrder_108 : decode cX4_endOfOrder 108 = .ok (.laload, 1) := by decide +kernel
theorem dX4_endOfOrder_109 : decode cX4_endOfOrder 109 = .ok (.lor, 1) := by decide +kernel
theorem dX4_endOfOrder_110 : decode cX4_endOfOrder 110 = .ok (.iload 7, 2) := by decide +kernel
theorem dX4_endOfOrder_112 : decode cX4_endOfOrder 112 = .ok (.invokestatic 86, 3) := by decide +kernel
theorem dX4_endOfOrder_115 : decode cX4_endOfOrder 115 = .ok (.istore 8, 2) := by decide +kernel
theorem dX4_endOfOrder_117 : decode cX4_endOfOrder 117 = .ok (.iload 8, 2) := by decide +kernel
theorem dX4_endOfOrder_119 : decode cX4_endOfOrder 119 = .ok (.bipush (-2), 2) := by decide +kernel
theorem dX4_endOfOrder_121 : decode cX4_endOfOrder 121 = .ok (.if_icmp .ne 6, 3) := by decide +kernel
theorem dX4_endOfOrder_124 : decode cX4_endOfOrder 124 = .ok (.bipush (-2), 2) := by decide +kernel
theorem dX4_endOfOrder_126 : decode cX4_endOfOrder 126 = .ok (.ireturn, 1) := by decide +kernel
theorem dX4_endOfOrder_127 : decode cX4_endOfOrder 127 = .ok (.aload_n 0, 1) := by decide +kernel
theorem dX4_endOfOrder_128 : decode cX4_endOfOrder 128 = .ok (.getfield 22, 3) := by decide +kernel
theorem dX4_endOfOrder_131 : decode cX4_endOfOrder 131 = .ok (.iload 4, 2) := by decide +kernel
theorem dX4_endOfOrder_133 : decode cX4_endOfOrder 133 = .ok (.iload 8, 2) := by decide +kernel
theorem dX4_endOfOrder_135 : decode cX4_endOfOrder 135 = .ok (.iastore, 1) := by decide +kernel
theorem dX4_endOfOrder_136 : decode cX4_endOfOrder 136 = .ok (.aload_n 0, 1) := by decide +kernel
theorem dX4_endOfOrder_137 : decode cX4_endOfOrder 137 = .ok (.getfield 15, 3) := by decide +kernel
theorem dX4_endOfOrder_140 : decode cX4_endOfOrder 140 = .ok (.iload 6, 2) := by decide +kernel
theorem dX4_endOfOrder_142 : decode cX4_endOfOrder 142 = .ok (.dup2, 1) := by decide +kernel
theorem dX4_endOfOrder_143 : decode cX4_endOfOrder 143 = .ok (.laload, 1) := by decide +kernel
theorem dX4_endOfOrder_144 : decode cX4_endOfOrder 144 = .ok (.lconst 1, 1) := by decide +kernel
theorem dX4_endOfOrder_145 : decode cX4_endOfOrder 145 = .ok (.iload 7, 2) := by decide +kernel
theorem dX4_endOfOrder_147 : decode cX4_endOfOrder 147 = .ok (.lshl, 1) := by decide +kernel
theorem dX4_endOfOrder_148 : decode cX4_endOfOrder 148 = .ok (.lconst 1, 1) := by decide +kernel
theorem dX4_endOfOrder_149 : decode cX4_endOfOrder 149 = .ok (.lsub, 1) := by decide +kernel
theorem dX4_endOfOrder_150 : decode cX4_endOfOrder 150 = .ok (.iload 8, 2) := by decide +kernel
theorem dX4_endOfOrder_152 : decode cX4_endOfOrder 152 = .ok (.lshl, 1) := by decide +kernel
theorem dX4_endOfOrder_153 : decode cX4_endOfOrder 153 = .ok (.lor, 1) := by decide +kernel
theorem dX4_endOfOrder_154 : decode cX4_endOfOrder 154 = .ok (.lastore, 1) := by decide +kernel
theorem dX4_endOfOrder_155 : decode cX4_endOfOrder 155 = .ok (.iload_n 3, 1) := by decide +kernel
theorem dX4_endOfOrder_156 : decode cX4_endOfOrder 156 = .ok (.iload 8, 2) := by decide +kernel
theorem dX4_endOfOrder_158 : decode cX4_endOfOrder 158 = .ok (.iload 7, 2) := by decide +kernel
theorem dX4_endOfOrder_160 : decode cX4_endOfOrder 160 = .ok (.iadd, 1) := by decide +kernel
theorem dX4_endOfOrder_161 : decode cX4_endOfOrder 161 = .ok (.iconst 1, 1) := by decide +kernel
theorem dX4_endOfOrder_162 : decode cX4_endOfOrder 162 = .ok (.isub, 1) := by decide +kernel
theorem dX4_endOfOrder_163 : decode cX4_endOfOrder 163 = .ok (.invokestatic 90, 3) := by decide +kernel
theorem dX4_endOfOrder_166 : decode cX4_endOfOrder 166 = .ok (.istore_n 3, 1) := by decide +kernel
theorem dX4_endOfOrder_167 : decode cX4_endOfOrder 167 = .ok (.iinc 4 1, 3) := by decide +kernel
theorem dX4_endOfOrder_170 : decode cX4_endOfOrder 170 = .ok (.goto (-145), 3) := by decide +kernel
theorem dX4_endOfOrder_173 : decode cX4_endOfOrder 173 = .ok (.iload_n 3, 1) := by decide +kernel
theorem dX4_endOfOrder_174 : decode cX4_endOfOrder 174 = .ok (.ireturn, 1) := by decide +kernel
theorem dX4_earliest_0 : decode cX4_earliest 0 = .ok (.iconst 0, 1) := by decide +kernel
theorem dX4_earliest_1 : decode cX4_earliest 1 = .ok (.istore_n 3, 1) := by decide +kernel
theorem dX4_earliest_2 : decode cX4_earliest 2 = .ok (.iload_n 3, 1) := by decide +kernel
theorem dX4_earliest_3 : decode cX4_earliest 3 = .ok (.iload_n 2, 1) := by decide +kernel
theorem dX4_earliest_4 : decode cX4_earliest 4 = .ok (.iadd, 1) := by decide +kernel
theorem dX4_earliest_5 : decode cX4_earliest 5 = .ok (.bipush 48, 2) := by decide +kernel
theorem dX4_earliest_7 : decode cX4_earliest 7 = .ok (.if_icmp .gt 25, 3) := by decide +kernel
theorem dX4_earliest_10 : decode cX4_earliest 10 = .ok (.lconst 1, 1) := by decide +kernel
theorem dX4_earliest_11 : decode cX4_earliest 11 = .ok (.iload_n 2, 1) := by decide +kernel
theorem dX4_earliest_12 : decode cX4_earliest 12 = .ok (.lshl, 1) := by decide +kernel
theorem dX4_earliest_13 : decode cX4_earliest 13 = .ok (.lconst 1, 1) := by decide +kernel
theorem dX4_earliest_14 : decode cX4_earliest 14 = .ok (.lsub, 1) := by decide +kernel
theorem dX4_earliest_15 : decode cX4_earliest 15 = .ok (.iload_n 3, 1) := by decide +kernel
theorem dX4_earliest_16 : decode cX4_earliest 16 = .ok (.lshl, 1) := by decide +kernel
theorem dX4_earliest_17 : decode cX4_earliest 17 = .ok (.lload_n 0, 1) := by decide +kernel
theorem dX4_earliest_18 : decode cX4_earliest 18 = .ok (.land, 1) := by decide +kernel
theorem dX4_earliest_19 : decode cX4_earliest 19 = .ok (.lconst 0, 1) := by decide +kernel
theorem dX4_earliest_20 : decode cX4_earliest 20 = .ok (.lcmp, 1) := by decide +kernel
theorem dX4_earliest_21 : decode cX4_earliest 21 = .ok (.ifCond .ne 5, 3) := by decide +kernel
theorem dX4_earliest_24 : decode cX4_earliest 24 = .ok (.iload_n 3, 1) := by decide +kernel
theorem dX4_earliest_25 : decode cX4_earliest 25 = .ok (.ireturn, 1) := by decide +kernel
theorem dX4_earliest_26 : decode cX4_earliest 26 = .ok (.iinc 3 1, 3) := by decide +kernel
theorem dX4_earliest_29 : decode cX4_earliest 29 = .ok (.goto (-27), 3) := by decide +kernel
theorem dX4_earliest_32 : decode cX4_earliest 32 = .ok (.bipush (-2), 2) := by decide +kernel
theorem dX4_earliest_34 : decode cX4_earliest 34 = .ok (.ireturn, 1) := by decide +kernel
theorem dX4_nextOrder_0 : decode cX4_nextOrder 0 = .ok (.iload_n 1, 1) := by decide +kernel
theorem dX4_nextOrder_1 : decode cX4_nextOrder 1 = .ok (.iconst 2, 1) := by decide +kernel
theorem dX4_nextOrder_2 : decode cX4_nextOrder 2 = .ok (.isub, 1) := by decide +kernel
theorem dX4_nextOrder_3 : decode cX4_nextOrder 3 = .ok (.istore_n 2, 1) := by decide +kernel
theorem dX4_nextOrder_4 : decode cX4_nextOrder 4 = .ok (.iload_n 2, 1) := by decide +kernel
theorem dX4_nextOrder_5 : decode cX4_nextOrder 5 = .ok (.ifCond .lt 26, 3) := by decide +kernel
theorem dX4_nextOrder_8 : decode cX4_nextOrder 8 = .ok (.aload_n 0, 1) := by decide +kernel
theorem dX4_nextOrder_9 : decode cX4_nextOrder 9 = .ok (.getfield 18, 3) := by decide +kernel
theorem dX4_nextOrder_12 : decode cX4_nextOrder 12 = .ok (.iload_n 2, 1) := by decide +kernel
theorem dX4_nextOrder_13 : decode cX4_nextOrder 13 = .ok (.iaload, 1) := by decide +kernel
theorem dX4_nextOrder_14 : decode cX4_nextOrder 14 = .ok (.aload_n 0, 1) := by decide +kernel
theorem dX4_nextOrder_15 : decode cX4_nextOrder 15 = .ok (.getfield 18, 3) := by decide +kernel
theorem dX4_nextOrder_18 : decode cX4_nextOrder 18 = .ok (.iload_n 2, 1) := by decide +kernel
theorem dX4_nextOrder_19 : decode cX4_nextOrder 19 = .ok (.iconst 1, 1) := by decide +kernel
theorem dX4_nextOrder_20 : decode cX4_nextOrder 20 = .ok (.iadd, 1) := by decide +kernel
theorem dX4_nextOrder_21 : decode cX4_nextOrder 21 = .ok (.iaload, 1) := by decide +kernel
theorem dX4_nextOrder_22 : decode cX4_nextOrder 22 = .ok (.if_icmp .le 9, 3) := by decide +kernel
theorem dX4_nextOrder_25 : decode cX4_nextOrder 25 = .ok (.iinc 2 (-1), 3) := by decide +kernel
theorem dX4_nextOrder_28 : decode cX4_nextOrder 28 = .ok (.goto (-24), 3) := by decide +kernel
theorem dX4_nextOrder_31 : decode cX4_nextOrder 31 = .ok (.iload_n 2, 1) := by decide +kernel
theorem dX4_nextOrder_32 : decode cX4_nextOrder 32 = .ok (.ifCond .ge 5, 3) := by decide +kernel
theorem dX4_nextOrder_35 : decode cX4_nextOrder 35 = .ok (.iconst 0, 1) := by decide +kernel
theorem dX4_nextOrder_36 : decode cX4_nextOrder 36 = .ok (.ireturn, 1) := by decide +kernel
theorem dX4_nextOrder_37 : decode cX4_nextOrder 37 = .ok (.iload_n 1, 1) := by decide +kernel
theorem dX4_nextOrder_38 : decode cX4_nextOrder 38 = .ok (.iconst 1, 1) := by decide +kernel
theorem dX4_nextOrder_39 : decode cX4_nextOrder 39 = .ok (.isub, 1) := by decide +kernel
theorem dX4_nextOrder_40 : decode cX4_nextOrder 40 = .ok (.istore_n 3, 1) := by decide +kernel
theorem dX4_nextOrder_41 : decode cX4_nextOrder 41 = .ok (.iload_n 3, 1) := by decide +kernel
theorem dX4_nextOrder_42 : decode cX4_nextOrder 42 = .ok (.iload_n 2, 1) := by decide +kernel
theorem dX4_nextOrder_43 : decode cX4_nextOrder 43 = .ok (.if_icmp .le 24, 3) := by decide +kernel
theorem dX4_nextOrder_46 : decode cX4_nextOrder 46 = .ok (.aload_n 0, 1) := by decide +kernel
theorem dX4_nextOrder_47 : decode cX4_nextOrder 47 = .ok (.getfield 18, 3) := by decide +kernel
theorem dX4_nextOrder_50 : decode cX4_nextOrder 50 = .ok (.iload_n 3, 1) := by decide +kernel
theorem dX4_nextOrder_51 : decode cX4_nextOrder 51 = .ok (.iaload, 1) := by decide +kernel
theorem dX4_nextOrder_52 : decode cX4_nextOrder 52 = .ok (.aload_n 0, 1) := by decide +kernel
theorem dX4_nextOrder_53 : decode cX4_nextOrder 53 = .ok (.getfield 18, 3) := by decide +kernel
theorem dX4_nextOrder_56 : decode cX4_nextOrder 56 = .ok (.iload_n 2, 1) := by decide +kernel
theorem dX4_nextOrder_57 : decode cX4_nextOrder 57 = .ok (.iaload, 1) := by decide +kernel
theorem dX4_nextOrder_58 : decode cX4_nextOrder 58 = .ok (.if_icmp .ge 9, 3) := by decide +kernel
theorem dX4_nextOrder_61 : decode cX4_nextOrder 61 = .ok (.iinc 3 (-1), 3) := by decide +kernel
theorem dX4_nextOrder_64 : decode cX4_nextOrder 64 = .ok (.goto (-23), 3) := by decide +kernel
theorem dX4_nextOrder_67 : decode cX4_nextOrder 67 = .ok (.aload_n 0, 1) := by decide +kernel
theorem dX4_nextOrder_68 : decode cX4_nextOrder 68 = .ok (.iload_n 2, 1) := by decide +kernel
theorem dX4_nextOrder_69 : decode cX4_nextOrder 69 = .ok (.iload_n 3, 1) := by decide +kernel
theorem dX4_nextOrder_70 : decode cX4_nextOrder 70 = .ok (.invokevirtual 93, 3) := by decide +kernel
theorem dX4_nextOrder_73 : decode cX4_nextOrder 73 = .ok (.iload_n 2, 1) := by decide +kernel
theorem dX4_nextOrder_74 : decode cX4_nextOrder 74 = .ok (.iconst 1, 1) := by decide +kernel
theorem dX4_nextOrder_75 : decode cX4_nextOrder 75 = .ok (.iadd, 1) := by decide +kernel
theorem dX4_nextOrder_76 : decode cX4_nextOrder 76 = .ok (.istore 4, 2) := by decide +kernel
theorem dX4_nextOrder_78 : decode cX4_nextOrder 78 = .ok (.iload_n 1, 1) := by decide +kernel
theorem dX4_nextOrder_79 : decode cX4_nextOrder 79 = .ok (.iconst 1, 1) := by decide +kernel
theorem dX4_nextOrder_80 : decode cX4_nextOrder 80 = .ok (.isub, 1) := by decide +kernel
theorem dX4_nextOrder_81 : decode cX4_nextOrder 81 = .ok (.istore 5, 2) := by decide +kernel
theorem dX4_nextOrder_83 : decode cX4_nextOrder 83 = .ok (.iload 5, 2) := by decide +kernel
theorem dX4_nextOrder_85 : decode cX4_nextOrder 85 = .ok (.iload 4, 2) := by decide +kernel
theorem dX4_nextOrder_87 : decode cX4_nextOrder 87 = .ok (.if_icmp .le 20, 3) := by decide +kernel
theorem dX4_nextOrder_90 : decode cX4_nextOrder 90 = .ok (.aload_n 0, 1) := by decide +kernel
theorem dX4_nextOrder_91 : decode cX4_nextOrder 91 = .ok (.iload 4, 2) := by decide +kernel
theorem dX4_nextOrder_93 : decode cX4_nextOrder 93 = .ok (.iload 5, 2) := by decide +kernel
theorem dX4_nextOrder_95 : decode cX4_nextOrder 95 = .ok (.invokevirtual 93, 3) := by decide +kernel
theorem dX4_nextOrder_98 : decode cX4_nextOrder 98 = .ok (.iinc 4 1, 3) := by decide +kernel
theorem dX4_nextOrder_101 : decode cX4_nextOrder 101 = .ok (.iinc 5 (-1), 3) := by decide +kernel
theorem dX4_nextOrder_104 : decode cX4_nextOrder 104 = .ok (.goto (-21), 3) := by decide +kernel
theorem dX4_nextOrder_107 : decode cX4_nextOrder 107 = .ok (.iconst 1, 1) := by decide +kernel
theorem dX4_nextOrder_108 : decode cX4_nextOrder 108 = .ok (.ireturn, 1) := by decide +kernel
theorem dX4_swap_0 : decode cX4_swap 0 = .ok (.aload_n 0, 1) := by decide +kernel
theorem dX4_swap_1 : decode cX4_swap 1 = .ok (.getfield 18, 3) := by decide +kernel
theorem dX4_swap_4 : decode cX4_swap 4 = .ok (.iload_n 1, 1) := by decide +kernel
theorem dX4_swap_5 : decode cX4_swap 5 = .ok (.iaload, 1) := by decide +kernel
theorem dX4_swap_6 : decode cX4_swap 6 = .ok (.istore_n 3, 1) := by decide +kernel
theorem dX4_swap_7 : decode cX4_swap 7 = .ok (.aload_n 0, 1) := by decide +kernel
theorem dX4_swap_8 : decode cX4_swap 8 = .ok (.getfield 18, 3) := by decide +kernel
theorem dX4_swap_11 : decode cX4_swap 11 = .ok (.iload_n 1, 1) := by decide +kernel
theorem dX4_swap_12 : decode cX4_swap 12 = .ok (.aload_n 0, 1) := by decide +kernel
theorem dX4_swap_13 : decode cX4_swap 13 = .ok (.getfield 18, 3) := by decide +kernel
theorem dX4_swap_16 : decode cX4_swap 16 = .ok (.iload_n 2, 1) := by decide +kernel
theorem dX4_swap_17 : decode cX4_swap 17 = .ok (.iaload, 1) := by decide +kernel
theorem dX4_swap_18 : decode cX4_swap 18 = .ok (.iastore, 1) := by decide +kernel
theorem dX4_swap_19 : decode cX4_swap 19 = .ok (.aload_n 0, 1) := by decide +kernel
theorem dX4_swap_20 : decode cX4_swap 20 = .ok (.getfield 18, 3) := by decide +kernel
theorem dX4_swap_23 : decode cX4_swap 23 = .ok (.iload_n 2, 1) := by decide +kernel
theorem dX4_swap_24 : decode cX4_swap 24 = .ok (.iload_n 3, 1) := by decide +kernel
theorem dX4_swap_25 : decode cX4_swap 25 = .ok (.iastore, 1) := by decide +kernel
theorem dX4_swap_26 : decode cX4_swap 26 = .ok (.return_, 1) := by decide +kernel
theorem dX5_init_0 : decode cX5_init 0 = .ok (.aload_n 0, 1) := by decide +kernel
theorem dX5_init_1 : decode cX5_init 1 = .ok (.invokespecial 3, 3) := by decide +kernel
theorem dX5_init_4 : decode cX5_init 4 = .ok (.aload_n 0, 1) := by decide +kernel
theorem dX5_init_5 : decode cX5_init 5 = .ok (.new 9, 3) := by decide +kernel
theorem dX5_init_8 : decode cX5_init 8 = .ok (.dup, 1) := by decide +kernel
theorem dX5_init_9 : decode cX5_init 9 = .ok (.invokespecial 11, 3) := by decide +kernel
theorem dX5_init_12 : decode cX5_init 12 = .ok (.putfield 12, 3) := by decide +kernel
theorem dX5_init_15 : decode cX5_init 15 = .ok (.aload_n 0, 1) := by decide +kernel
theorem dX5_init_16 : decode cX5_init 16 = .ok (.iconst 5, 1) := by decide +kernel
theorem dX5_init_17 : decode cX5_init 17 = .ok (.newarray .int, 2) := by decide +kernel
theorem dX5_init_19 : decode cX5_init 19 = .ok (.putfield 18, 3) := by decide +kernel
theorem dX5_init_22 : decode cX5_init 22 = .ok (.aload_n 0, 1) := by decide +kernel
theorem dX5_init_23 : decode cX5_init 23 = .ok (.iconst 3, 1) := by decide +kernel
theorem dX5_init_24 : decode cX5_init 24 = .ok (.newarray .int, 2) := by decide +kernel
theorem dX5_init_26 : decode cX5_init 26 = .ok (.putfield 22, 3) := by decide +kernel
theorem dX5_init_29 : decode cX5_init 29 = .ok (.aload_n 0, 1) := by decide +kernel
theorem dX5_init_30 : decode cX5_init 30 = .ok (.bipush 72, 2) := by decide +kernel
theorem dX5_init_32 : decode cX5_init 32 = .ok (.newarray .int, 2) := by decide +kernel
theorem dX5_init_34 : decode cX5_init 34 = .ok (.putfield 25, 3) := by decide +kernel
theorem dX5_init_37 : decode cX5_init 37 = .ok (.aload_n 0, 1) := by decide +kernel
theorem dX5_init_38 : decode cX5_init 38 = .ok (.iconst (-1), 1) := by decide +kernel
theorem dX5_init_39 : decode cX5_init 39 = .ok (.putfield 28, 3) := by decide +kernel
theorem dX5_init_42 : decode cX5_init 42 = .ok (.return_, 1) := by decide +kernel
theorem dX5_read_0 : decode cX5_read 0 = .ok (.aload_n 0, 1) := by decide +kernel
theorem dX5_read_1 : decode cX5_read 1 = .ok (.getfield 12, 3) := by decide +kernel
theorem dX5_read_4 : decode cX5_read 4 = .ok (.aload_n 1, 1) := by decide +kernel
theorem dX5_read_5 : decode cX5_read 5 = .ok (.iload_n 2, 1) := by decide +kernel
theorem dX5_read_6 : decode cX5_read 6 = .ok (.invokevirtual 32, 3) := by decide +kernel
theorem dX5_read_9 : decode cX5_read 9 = .ok (.aload_n 0, 1) := by decide +kernel
theorem dX5_read_10 : decode cX5_read 10 = .ok (.aload_n 3, 1) := by decide +kernel
theorem dX5_read_11 : decode cX5_read 11 = .ok (.putfield 36, 3) := by decide +kernel
theorem dX5_read_14 : decode cX5_read 14 = .ok (.aload_n 0, 1) := by decide +kernel
theorem dX5_read_15 : decode cX5_read 15 = .ok (.getfield 36, 3) := by decide +kernel
theorem dX5_read_18 : decode cX5_read 18 = .ok (.invokevirtual 40, 3) := by decide +kernel
theorem dX5_read_21 : decode cX5_read 21 = .ok (.aload_n 0, 1) := by decide +kernel
theorem dX5_read_22 : decode cX5_read 22 = .ok (.iconst 0, 1) := by decide +kernel
theorem dX5_read_23 : decode cX5_read 23 = .ok (.putfield 45, 3) := by decide +kernel
theorem dX5_read_26 : decode cX5_read 26 = .ok (.aload_n 0, 1) := by decide +kernel
theorem dX5_read_27 : decode cX5_read 27 = .ok (.iconst 0, 1) := by decide +kernel
theorem dX5_read_28 : decode cX5_read 28 = .ok (.putfield 48, 3) := by decide +kernel
theorem dX5_read_31 : decode cX5_read 31 = .ok (.aload_n 0, 1) := by decide +kernel
theorem dX5_read_32 : decode cX5_read 32 = .ok (.iconst (-1), 1) := by decide +kernel
theorem dX5_read_33 : decode cX5_read 33 = .ok (.putfield 28, 3) := by decide +kernel
theorem dX5_read_36 : decode cX5_read 36 = .ok (.iconst 0, 1) := by decide +kernel
theorem dX5_read_37 : decode cX5_read 37 = .ok (.istore 4, 2) := by decide +kernel
theorem dX5_read_39 : decode cX5_read 39 = .ok (.iload 4, 2) := by decide +kernel
theorem dX5_read_41 : decode cX5_read 41 = .ok (.aload_n 0, 1) := by decide +kernel
theorem dX5_read_42 : decode cX5_read 42 = .ok (.getfield 22, 3) := by decide +kernel
theorem dX5_read_45 : decode cX5_read 45 = .ok (.arraylength, 1) := by decide +kernel
theorem dX5_read_46 : decode cX5_read 46 = .ok (.if_icmp .ge 17, 3) := by decide +kernel
theorem dX5_read_49 : decode cX5_read 49 = .ok (.aload_n 0, 1) := by decide +kernel
theorem dX5_read_50 : decode cX5_read 50 = .ok (.getfield 22, 3) := by decide +kernel
theorem dX5_read_53 : decode cX5_read 53 = .ok (.iload 4, 2) := by decide +kernel
theorem dX5_read_55 : decode cX5_read 55 = .ok (.iconst (-1), 1) := by decide +kernel
theorem dX5_read_56 : decode cX5_read 56 = .ok (.iastore, 1) := by decide +kernel
theorem dX5_read_57 : decode cX5_read 57 = .ok (.iinc 4 1, 3) := by decide +kernel
theorem dX5_read_60 : decode cX5_read 60 = .ok (.goto (-21), 3) := by decide +kernel
theorem dX5_read_63 : decode cX5_read 63 = .ok (.iconst 0, 1) := by decide +kernel
theorem dX5_read_64 : decode cX5_read 64 = .ok (.istore 4, 2) := by decide +kernel
theorem dX5_read_66 : decode cX5_read 66 = .ok (.iload 4, 2) := by decide +kernel
theorem dX5_read_68 : decode cX5_read 68 = .ok (.sipush 700, 3) := by decide +kernel
theorem dX5_read_71 : decode cX5_read 71 = .ok (.if_icmp .gt 112, 3) := by decide +kernel
theorem dX5_read_74 : decode cX5_read 74 = .ok (.aload_n 0, 1) := by decide +kernel
theorem dX5_read_75 : decode cX5_read 75 = .ok (.getfield 12, 3) := by decide +kernel
theorem dX5_read_78 : decode cX5_read 78 = .ok (.invokevirtual 51, 3) := by decide +kernel
theorem dX5_read_81 : decode cX5_read 81 = .ok (.aload_n 0, 1) := by decide +kernel
theorem dX5_read_82 : decode cX5_read 82 = .ok (.getfield 12, 3) := by decide +kernel
theorem dX5_read_85 : decode cX5_read 85 = .ok (.getfield 54, 3) := by decide +kernel
theorem dX5_read_88 : decode cX5_read 88 = .ok (.ifCond .ne 80, 3) := by decide +kernel
theorem dX5_read_91 : decode cX5_read 91 = .ok (.aload_n 0, 1) := by decide +kernel
theorem dX5_read_92 : decode cX5_read 92 = .ok (.getfield 36, 3) := by decide +kernel
theorem dX5_read_95 : decode cX5_read 95 = .ok (.iload 4, 2) := by decide +kernel
theorem dX5_read_97 : decode cX5_read 97 = .ok (.putfield 57, 3) := by decide +kernel
theorem dX5_read_100 : decode cX5_read 100 = .ok (.aload_n 0, 1) := by decide +kernel
theorem dX5_read_101 : decode cX5_read 101 = .ok (.getfield 36, 3) := by decide +kernel
theorem dX5_read_104 : decode cX5_read 104 = .ok (.aload_n 0, 1) := by decide +kernel
theorem dX5_read_105 : decode cX5_read 105 = .ok (.getfield 22, 3) := by decide +kernel
theorem dX5_read_108 : decode cX5_read 108 = .ok (.iconst 0, 1) := by decide +kernel
theorem dX5_read_109 : decode cX5_read 109 = .ok (.iaload, 1) := by decide +kernel
theorem dX5_read_110 : decode cX5_read 110 = .ok (.iconst (-1), 1) := by decide +kernel
theorem dX5_read_111 : decode cX5_read 111 = .ok (.if_icmp .ne 13, 3) := by decide +kernel
theorem dX5_read_114 : decode cX5_read 114 = .ok (.aload_n 0, 1) := by decide +kernel
theorem dX5_read_115 : decode cX5_read 115 = .ok (.getfield 36, 3) := by decide +kernel
theorem dX5_read_118 : decode cX5_read 118 = .ok (.getfield 60, 3) := by decide +kernel
theorem dX5_read_121 : decode cX5_read 121 = .ok (.goto 9, 3) := by decide +kernel
theorem dX5_read_124 : decode cX5_read 124 = .ok (.aload_n 0, 1) := by decide +kernel
theorem dX5_read_125 : decode cX5_read 125 = .ok (.getfield 22, 3) := by decide +kernel
theorem dX5_read_128 : decode cX5_read 128 = .ok (.iconst 0, 1) := by decide +kernel
theorem dX5_read_129 : decode cX5_read 129 = .ok (.iaload, 1) := by decide +kernel
theorem dX5_read_130 : decode cX5_read 130 = .ok (.putfield 60, 3) := by decide +kernel
theorem dX5_read_133 : decode cX5_read 133 = .ok (.aload_n 0, 1) := by decide +kernel
theorem dX5_read_134 : decode cX5_read 134 = .ok (.getfield 36, 3) := by decide +kernel
theorem dX5_read_137 : decode cX5_read 137 = .ok (.aload_n 0, 1) := by decide +kernel
theorem dX5_read_138 : decode cX5_read 138 = .ok (.getfield 22, 3) := by decide +kernel
theorem dX5_read_141 : decode cX5_read 141 = .ok (.iconst 1, 1) := by decide +kernel
theorem dX5_read_142 : decode cX5_read 142 = .ok (.iaload, 1) := by decide +kernel
theorem dX5_read_143 : decode cX5_read 143 = .ok (.iconst (-1), 1) := by decide +kernel
theorem dX5_read_144 : decode cX5_read 144 = .ok (.if_icmp .ne 13, 3) := by decide +kernel
theorem dX5_read_147 : decode cX5_read 147 = .ok (.aload_n 0, 1) := by decide +kernel
theorem dX5_read_148 : decode cX5_read 148 = .ok (.getfield 36, 3) := by decide +kernel
theorem dX5_read_151 : decode cX5_read 151 = .ok (.getfield 63, 3) := by decide +kernel
theorem dX5_read_154 : decode cX5_read 154 = .ok (.goto 9, 3) := by decide +kernel
theorem dX5_read_157 : decode cX5_read 157 = .ok (.aload_n 0, 1) := by decide +kernel
theorem dX5_read_158 : decode cX5_read 158 = .ok (.getfield 22, 3) := by decide +kernel
theorem dX5_read_161 : decode cX5_read 161 = .ok (.iconst 1, 1) := by decide +kernel
theorem dX5_read_162 : decode cX5_read 162 = .ok (.iaload, 1) := by decide +kernel
theorem dX5_read_163 : decode cX5_read 163 = .ok (.putfield 63, 3) := by decide +kernel
theorem dX5_read_166 : decode cX5_read 166 = .ok (.iconst 1, 1) := by decide +kernel
theorem dX5_read_167 : decode cX5_read 167 = .ok (.ireturn, 1) := by decide +kernel
theorem dX5_read_168 : decode cX5_read 168 = .ok (.aload_n 0, 1) := by decide +kernel
theorem dX5_read_169 : decode cX5_read 169 = .ok (.invokevirtual 66, 3) := by decide +kernel
theorem dX5_read_172 : decode cX5_read 172 = .ok (.ifCond .ne 5, 3) := by decide +kernel
theorem dX5_read_175 : decode cX5_read 175 = .ok (.iconst 0, 1) := by decide +kernel
theorem dX5_read_176 : decode cX5_read 176 = .ok (.ireturn, 1) := by decide +kernel
theorem dX5_read_177 : decode cX5_read 177 = .ok (.iinc 4 1, 3) := by decide +kernel
theorem dX5_read_180 : decode cX5_read 180 = .ok (.goto (-114), 3) := by decide +kernel
theorem dX5_read_183 : decode cX5_read 183 = .ok (.aload_n 0, 1) := by decide +kernel
theorem dX5_read_184 : decode cX5_read 184 = .ok (.iconst 1, 1) := by decide +kernel
theorem dX5_read_185 : decode cX5_read 185 = .ok (.invokevirtual 70, 3) := by decide +kernel
theorem dX5_read_188 : decode cX5_read 188 = .ok (.ireturn, 1) := by decide +kernel
theorem dX5_refuse_0 : decode cX5_refuse 0 = .ok (.aload_n 0, 1) := by decide +kernel
theorem dX5_refuse_1 : decode cX5_refuse 1 = .ok (.iload_n 1, 1) := by decide +kernel
theorem dX5_refuse_2 : decode cX5_refuse 2 = .ok (.putfield 48, 3) := by decide +kernel
theorem dX5_refuse_5 : decode cX5_refuse 5 = .ok (.aload_n 0, 1) := by decide +kernel
theorem dX5_refuse_6 : decode cX5_refuse 6 = .ok (.aload_n 0, 1) := by decide +kernel
theorem dX5_refuse_7 : decode cX5_refuse 7 = .ok (.getfield 12, 3) := by decide +kernel
theorem dX5_refuse_10 : decode cX5_refuse 10 = .ok (.getfield 74, 3) := by decide +kernel
theorem dX5_refuse_13 : decode cX5_refuse 13 = .ok (.putfield 28, 3) := by decide +kernel
theorem dX5_refuse_16 : decode cX5_refuse 16 = .ok (.iconst 0, 1) := by decide +kernel
theorem dX5_refuse_17 : decode cX5_refuse 17 = .ok (.ireturn, 1) := by decide +kernel
theorem dX5_readLine_0 : decode cX5_readLine 0 = .ok (.aload_n 0, 1) := by decide +kernel
theorem dX5_readLine_1 : decode cX5_readLine 1 = .ok (.getfield 12, 3) := by decide +kernel
theorem dX5_readLine_4 : decode cX5_readLine 4 = .ok (.getfield 54, 3) := by decide +kernel
theorem dX5_readLine_7 : decode cX5_readLine 7 = .ok (.iconst 4, 1) := by decide +kernel
theorem dX5_readLine_8 : decode cX5_readLine 8 = .ok (.if_icmp .ne 13, 3) := by decide +kernel
theorem dX5_readLine_11 : decode cX5_readLine 11 = .ok (.aload_n 0, 1) := by decide +kernel
theorem dX5_readLine_12 : decode cX5_readLine 12 = .ok (.getfield 12, 3) := by decide +kernel
theorem dX5_readLine_15 : decode cX5_readLine 15 = .ok (.getfield 77, 3) := by decide +kernel
theorem dX5_readLine_18 : decode cX5_readLine 18 = .ok (.goto 4, 3) := by decide +kernel
theorem dX5_readLine_21 : decode cX5_readLine 21 = .ok (.iconst (-1), 1) := by decide +kernel
theorem dX5_readLine_22 : decode cX5_readLine 22 = .ok (.tableswitch 161 0 12 #[66, 71, 76, 81, 86, 91, 105, 119, 124, 129, 138, 147, 156], 66) := by decide +kernel
theorem dX5_readLine_88 : decode cX5_readLine 88 = .ok (.aload_n 0, 1) := by decide +kernel
theorem dX5_readLine_89 : decode cX5_readLine 89 = .ok (.invokevirtual 80, 3) := by decide +kernel
theorem dX5_readLine_92 : decode cX5_readLine 92 = .ok (.ireturn, 1) := by decide +kernel
theorem dX5_readLine_93 : decode cX5_readLine 93 = .ok (.aload_n 0, 1) := by decide +kernel
theorem dX5_readLine_94 : decode cX5_readLine 94 = .ok (.invokevirtual 83, 3) := by decide +kernel
theorem dX5_readLine_97 : decode cX5_readLine 97 = .ok (.ireturn, 1) := by decide +kernel
theorem dX5_readLine_98 : decode cX5_readLine 98 = .ok (.aload_n 0, 1) := by decide +kernel
theorem dX5_readLine_99 : decode cX5_readLine 99 = .ok (.invokevirtual 86, 3) := by decide +kernel
theorem dX5_readLine_102 : decode cX5_readLine 102 = .ok (.ireturn, 1) := by decide +kernel
theorem dX5_readLine_103 : decode cX5_readLine 103 = .ok (.aload_n 0, 1) := by decide +kernel
theorem dX5_readLine_104 : decode cX5_readLine 104 = .ok (.invokevirtual 89, 3) := by decide +kernel
theorem dX5_readLine_107 : decode cX5_readLine 107 = .ok (.ireturn, 1) := by decide +kernel
theorem dX5_readLine_108 : decode cX5_readLine 108 = .ok (.aload_n 0, 1) := by decide +kernel
theorem dX5_readLine_109 : decode cX5_readLine 109 = .ok (.invokevirtual 92, 3) := by decide +kernel
theorem dX5_readLine_112 : decode cX5_readLine 112 = .ok (.ireturn, 1) := by decide +kernel
theorem dX5_readLine_113 : decode cX5_readLine 113 = .ok (.aload_n 0, 1) := by decide +kernel
theorem dX5_readLine_114 : decode cX5_readLine 114 = .ok (.aload_n 0, 1) := by decide +kernel
theorem dX5_readLine_115 : decode cX5_readLine 115 = .ok (.getfield 36, 3) := by decide +kernel
theorem dX5_readLine_118 : decode cX5_readLine 118 = .ok (.getfield 95, 3) := by decide +kernel
theorem dX5_readLine_121 : decode cX5_readLine 121 = .ok (.bipush 8, 2) := by decide +kernel
theorem dX5_readLine_123 : decode cX5_readLine 123 = .ok (.invokevirtual 99, 3) := by decide +kernel
theorem dX5_readLine_126 : decode cX5_readLine 126 = .ok (.ireturn, 1) := by decide +kernel
theorem dX5_readLine_127 : decode cX5_readLine 127 = .ok (.aload_n 0, 1) := by decide +kernel
theorem dX5_readLine_128 : decode cX5_readLine 128 = .ok (.aload_n 0, 1) := by decide +kernel
theorem dX5_readLine_129 : decode cX5_readLine 129 = .ok (.getfield 36, 3) := by decide +kernel
theorem dX5_readLine_132 : decode cX5_readLine 132 = .ok (.getfield 103, 3) := by decide +kernel
theorem dX5_readLine_135 : decode cX5_readLine 135 = .ok (.bipush 6, 2) := by decide +kernel
theorem dX5_readLine_137 : decode cX5_readLine 137 = .ok (.invokevirtual 99, 3) := by decide +kernel
theorem dX5_readLine_140 : decode cX5_readLine 140 = .ok (.ireturn, 1) := by decide +kernel
theorem dX5_readLine_141 : decode cX5_readLine 141 = .ok (.aload_n 0, 1) := by decide +kernel
theorem dX5_readLine_142 : decode cX5_readLine 142 = .ok (.invokevirtual 106, 3) := by decide +kernel
theorem dX5_readLine_145 : decode cX5_readLine 145 = .ok (.ireturn, 1) := by decide +kernel
theorem dX5_readLine_146 : decode cX5_readLine 146 = .ok (.aload_n 0, 1) := by decide +kernel
theorem dX5_readLine_147 : decode cX5_readLine 147 = .ok (.invokevirtual 109, 3) := by decide +kernel
theorem dX5_readLine_150 : decode cX5_readLine 150 = .ok (.ireturn, 1) := by decide +kernel
theorem dX5_readLine_151 : decode cX5_readLine 151 = .ok (.aload_n 0, 1) := by decide +kernel
theorem dX5_readLine_152 : decode cX5_readLine 152 = .ok (.iconst 0, 1) := by decide +kernel
theorem dX5_readLine_153 : decode cX5_readLine 153 = .ok (.iconst 1, 1) := by decide +kernel
theorem dX5_readLine_154 : decode cX5_readLine 154 = .ok (.bipush 9, 2) := by decide +kernel
theorem dX5_readLine_156 : decode cX5_readLine 156 = .ok (.invokevirtual 112, 3) := by decide +kernel
theorem dX5_readLine_159 : decode cX5_readLine 159 = .ok (.ireturn, 1) := by decide +kernel
theorem dX5_readLine_160 : decode cX5_readLine 160 = .ok (.aload_n 0, 1) := by decide +kernel
theorem dX5_readLine_161 : decode cX5_readLine 161 = .ok (.iconst 1, 1) := by decide +kernel
theorem dX5_readLine_162 : decode cX5_readLine 162 = .ok (.iconst 0, 1) := by decide +kernel
theorem dX5_readLine_163 : decode cX5_readLine 163 = .ok (.bipush 9, 2) := by decide +kernel
theorem dX5_readLine_165 : decode cX5_readLine 165 = .ok (.invokevirtual 112, 3) := by decide +kernel
theorem dX5_readLine_168 : decode cX5_readLine 168 = .ok (.ireturn, 1) := by decide +kernel
theorem dX5_readLine_169 : decode cX5_readLine 169 = .ok (.aload_n 0, 1) := by decide +kernel
theorem dX5_readLine_170 : decode cX5_readLine 170 = .ok (.iconst 2, 1) := by decide +kernel
theorem dX5_readLine_171 : decode cX5_readLine 171 = .ok (.iconst 0, 1) := by decide +kernel
theorem dX5_readLine_172 : decode cX5_readLine 172 = .ok (.ldc 116, 2) := by decide +kernel
theorem dX5_readLine_174 : decode cX5_readLine 174 = .ok (.invokevirtual 112, 3) := by decide +kernel
theorem dX5_readLine_177 : decode cX5_readLine 177 = .ok (.ireturn, 1) := by decide +kernel
theorem dX5_readLine_178 : decode cX5_readLine 178 = .ok (.aload_n 0, 1) := by decide +kernel
theorem dX5_readLine_179 : decode cX5_readLine 179 = .ok (.invokevirtual 117, 3) := by decide +kernel
theorem dX5_readLine_182 : decode cX5_readLine 182 = .ok (.ireturn, 1) := by decide +kernel
theorem dX5_readLine_183 : decode cX5_readLine 183 = .ok (.aload_n 0, 1) := by decide +kernel
theorem dX5_readLine_184 : decode cX5_readLine 184 = .ok (.iconst 1, 1) := by decide +kernel
theorem dX5_readLine_185 : decode cX5_readLine 185 = .ok (.invokevirtual 70, 3) := by decide +kernel
theorem dX5_readLine_188 : decode cX5_readLine 188 = .ok (.ireturn, 1) := by decide +kernel
theorem dX5_takeNewName_0 : decode cX5_takeNewName 0 = .ok (.aload_n 0, 1) := by decide +kernel
theorem dX5_takeNewName_1 : decode cX5_takeNewName 1 = .ok (.getfield 12, 3) := by decide +kernel
theorem dX5_takeNewName_4 : decode cX5_takeNewName 4 = .ok (.invokevirtual 51, 3) := by decide +kernel
theorem dX5_takeNewName_7 : decode cX5_takeNewName 7 = .ok (.aload_n 0, 1) := by decide +kernel
theorem dX5_takeNewName_8 : decode cX5_takeNewName 8 = .ok (.getfield 12, 3) := by decide +kernel
theorem dX5_takeNewName_11 : decode cX5_takeNewName 11 = .ok (.getfield 54, 3) := by decide +kernel
theorem dX5_takeNewName_14 : decode cX5_takeNewName 14 = .ok (.iconst 3, 1) := by decide +kernel
theorem dX5_takeNewName_15 : decode cX5_takeNewName 15 = .ok (.if_icmp .eq 9, 3) := by decide +kernel
theorem dX5_takeNewName_18 : decode cX5_takeNewName 18 = .ok (.aload_n 0, 1) := by decide +kernel
theorem dX5_takeNewName_19 : decode cX5_takeNewName 19 = .ok (.iconst 1, 1) := by decide +kernel
theorem dX5_takeNewName_20 : decode cX5_takeNewName 20 = .ok (.invokevirtual 70, 3) := by decide +kernel
theorem dX5_takeNewName_23 : decode cX5_takeNewName 23 = .ok (.ireturn, 1) := by decide +kernel
theorem dX5_takeNewName_24 : decode cX5_takeNewName 24 = .ok (.aload_n 0, 1) := by decide +kernel
theorem dX5_takeNewName_25 : decode cX5_takeNewName 25 = .ok (.getfield 18, 3) := by decide +kernel
theorem dX5_takeNewName_28 : decode cX5_takeNewName 28 = .ok (.iconst 0, 1) := by decide +kernel
theorem dX5_takeNewName_29 : decode cX5_takeNewName 29 = .ok (.aload_n 0, 1) := by decide +kernel
theorem dX5_takeNewName_30 : decode cX5_takeNewName 30 = .ok (.getfield 12, 3) := by decide +kernel
theorem dX5_takeNewName_33 : decode cX5_takeNewName 33 = .ok (.getfield 77, 3) := by decide +kernel
theorem dX5_takeNewName_36 : decode cX5_takeNewName 36 = .ok (.iastore, 1) := by decide +kernel
theorem dX5_takeNewName_37 : decode cX5_takeNewName 37 = .ok (.aload_n 1, 1) := by decide +kernel
theorem dX5_takeNewName_38 : decode cX5_takeNewName 38 = .ok (.iconst 0, 1) := by decide +kernel
theorem dX5_takeNewName_39 : decode cX5_takeNewName 39 = .ok (.aload_n 0, 1) := by decide +kernel
theorem dX5_takeNewName_40 : decode cX5_takeNewName 40 = .ok (.getfield 12, 3) := by decide +kernel
theorem dX5_takeNewName_43 : decode cX5_takeNewName 43 = .ok (.getfield 77, 3) := by decide +kernel
theorem dX5_takeNewName_46 : decode cX5_takeNewName 46 = .ok (.invokevirtual 120, 3) := by decide +kernel
theorem dX5_takeNewName_49 : decode cX5_takeNewName 49 = .ok (.iconst (-1), 1) := by decide +kernel
theorem dX5_takeNewName_50 : decode cX5_takeNewName 50 = .ok (.if_icmp .eq 11, 3) := by decide +kernel
theorem dX5_takeNewName_53 : decode cX5_takeNewName 53 = .ok (.aload_n 0, 1) := by decide +kernel
theorem dX5_takeNewName_54 : decode cX5_takeNewName 54 = .ok (.iconst 3, 1) := by decide +kernel
theorem dX5_takeNewName_55 : decode cX5_takeNewName 55 = .ok (.invokevirtual 70, 3) := by decide +kernel
theorem dX5_takeNewName_58 : decode cX5_takeNewName 58 = .ok (.ifCond .eq 7, 3) := by decide +kernel
theorem dX5_takeNewName_61 : decode cX5_takeNewName 61 = .ok (.iconst 1, 1) := by decide +kernel
theorem dX5_takeNewName_62 : decode cX5_takeNewName 62 = .ok (.goto 4, 3) := by decide +kernel
theorem dX5_takeNewName_65 : decode cX5_takeNewName 65 = .ok (.iconst 0, 1) := by decide +kernel
theorem dX5_takeNewName_66 : decode cX5_takeNewName 66 = .ok (.ireturn, 1) := by decide +kernel
theorem dX5_takeTold_0 : decode cX5_takeTold 0 = .ok (.aload_n 0, 1) := by decide +kernel
theorem dX5_takeTold_1 : decode cX5_takeTold 1 = .ok (.getfield 12, 3) := by decide +kernel
theorem dX5_takeTold_4 : decode cX5_takeTold 4 = .ok (.invokevirtual 51, 3) := by decide +kernel
theorem dX5_takeTold_7 : decode cX5_takeTold 7 = .ok (.aload_n 0, 1) := by decide +kernel
theorem dX5_takeTold_8 : decode cX5_takeTold 8 = .ok (.getfield 12, 3) := by decide +kernel
theorem dX5_takeTold_11 : decode cX5_takeTold 11 = .ok (.getfield 54, 3) := by decide +kernel
theorem dX5_takeTold_14 : decode cX5_takeTold 14 = .ok (.iconst 3, 1) := by decide +kernel
theorem dX5_takeTold_15 : decode cX5_takeTold 15 = .ok (.if_icmp .eq 9, 3) := by decide +kernel
theorem dX5_takeTold_18 : decode cX5_takeTold 18 = .ok (.aload_n 0, 1) := by decide +kernel
theorem dX5_takeTold_19 : decode cX5_takeTold 19 = .ok (.iconst 1, 1) := by decide +kernel
theorem dX5_takeTold_20 : decode cX5_takeTold 20 = .ok (.invokevirtual 70, 3) := by decide +kernel
theorem dX5_takeTold_23 : decode cX5_takeTold 23 = .ok (.ireturn, 1) := by decide +kernel
theorem dX5_takeTold_24 : decode cX5_takeTold 24 = .ok (.aload_n 0, 1) := by decide +kernel
theorem dX5_takeTold_25 : decode cX5_takeTold 25 = .ok (.getfield 18, 3) := by decide +kernel
theorem dX5_takeTold_28 : decode cX5_takeTold 28 = .ok (.iload_n 2, 1) := by decide +kernel
theorem dX5_takeTold_29 : decode cX5_takeTold 29 = .ok (.aload_n 1, 1) := by decide +kernel
theorem dX5_takeTold_30 : decode cX5_takeTold 30 = .ok (.iconst 0, 1) := by decide +kernel
theorem dX5_takeTold_31 : decode cX5_takeTold 31 = .ok (.aload_n 0, 1) := by decide +kernel
theorem dX5_takeTold_32 : decode cX5_takeTold 32 = .ok (.getfield 12, 3) := by decide +kernel
theorem dX5_takeTold_35 : decode cX5_takeTold 35 = .ok (.getfield 77, 3) := by decide +kernel
theorem dX5_takeTold_38 : decode cX5_takeTold 38 = .ok (.invokevirtual 120, 3) := by decide +kernel
theorem dX5_takeTold_41 : decode cX5_takeTold 41 = .ok (.iastore, 1) := by decide +kernel
theorem dX5_takeTold_42 : decode cX5_takeTold 42 = .ok (.aload_n 0, 1) := by decide +kernel
theorem dX5_takeTold_43 : decode cX5_takeTold 43 = .ok (.getfield 18, 3) := by decide +kernel
theorem dX5_takeTold_46 : decode cX5_takeTold 46 = .ok (.iload_n 2, 1) := by decide +kernel
theorem dX5_takeTold_47 : decode cX5_takeTold 47 = .ok (.iaload, 1) := by decide +kernel
theorem dX5_takeTold_48 : decode cX5_takeTold 48 = .ok (.iconst (-1), 1) := by decide +kernel
theorem dX5_takeTold_49 : decode cX5_takeTold 49 = .ok (.if_icmp .ne 11, 3) := by decide +kernel
theorem dX5_takeTold_52 : decode cX5_takeTold 52 = .ok (.aload_n 0, 1) := by decide +kernel
theorem dX5_takeTold_53 : decode cX5_takeTold 53 = .ok (.iconst 4, 1) := by decide +kernel
theorem dX5_takeTold_54 : decode cX5_takeTold 54 = .ok (.invokevirtual 70, 3) := by decide +kernel
theorem dX5_takeTold_57 : decode cX5_takeTold 57 = .ok (.ifCond .eq 7, 3) := by decide +kernel
theorem dX5_takeTold_60 : decode cX5_takeTold 60 = .ok (.iconst 1, 1) := by decide +kernel
theorem dX5_takeTold_61 : decode cX5_takeTold 61 = .ok (.goto 4, 3) := by decide +kernel
theorem dX5_takeTold_64 : decode cX5_takeTold 64 = .ok (.iconst 0, 1) := by decide +kernel
theorem dX5_takeTold_65 : decode cX5_takeTold 65 = .ok (.ireturn, 1) := by decide +kernel
theorem dX5_takeNumber_0 : decode cX5_takeNumber 0 = .ok (.aload_n 0, 1) := by decide +kernel
theorem dX5_takeNumber_1 : decode cX5_takeNumber 1 = .ok (.getfield 12, 3) := by decide +kernel
theorem dX5_takeNumber_4 : decode cX5_takeNumber 4 = .ok (.invokevirtual 51, 3) := by decide +kernel
theorem dX5_takeNumber_7 : decode cX5_takeNumber 7 = .ok (.aload_n 0, 1) := by decide +kernel
theorem dX5_takeNumber_8 : decode cX5_takeNumber 8 = .ok (.getfield 12, 3) := by decide +kernel
theorem dX5_takeNumber_11 : decode cX5_takeNumber 11 = .ok (.getfield 54, 3) := by decide +kernel
theorem dX5_takeNumber_14 : decode cX5_takeNumber 14 = .ok (.iconst 2, 1) := by decide +kernel
theorem dX5_takeNumber_15 : decode cX5_takeNumber 15 = .ok (.if_icmp .eq 9, 3) := by decide +kernel
theorem dX5_takeNumber_18 : decode cX5_takeNumber 18 = .ok (.aload_n 0, 1) := by decide +kernel
theorem dX5_takeNumber_19 : decode cX5_takeNumber 19 = .ok (.iconst 1, 1) := by decide +kernel
theorem dX5_takeNumber_20 : decode cX5_takeNumber 20 = .ok (.invokevirtual 70, 3) := by decide +kernel
theorem dX5_takeNumber_23 : decode cX5_takeNumber 23 = .ok (.ireturn, 1) := by decide +kernel
theorem dX5_takeNumber_24 : decode cX5_takeNumber 24 = .ok (.aload_n 0, 1) := by decide +kernel
theorem dX5_takeNumber_25 : decode cX5_takeNumber 25 = .ok (.getfield 18, 3) := by decide +kernel
theorem dX5_takeNumber_28 : decode cX5_takeNumber 28 = .ok (.iload_n 1, 1) := by decide +kernel
theorem dX5_takeNumber_29 : decode cX5_takeNumber 29 = .ok (.aload_n 0, 1) := by decide +kernel
theorem dX5_takeNumber_30 : decode cX5_takeNumber 30 = .ok (.getfield 12, 3) := by decide +kernel
theorem dX5_takeNumber_33 : decode cX5_takeNumber 33 = .ok (.getfield 77, 3) := by decide +kernel
theorem dX5_takeNumber_36 : decode cX5_takeNumber 36 = .ok (.iastore, 1) := by decide +kernel
theorem dX5_takeNumber_37 : decode cX5_takeNumber 37 = .ok (.aload_n 0, 1) := by decide +kernel
theorem dX5_takeNumber_38 : decode cX5_takeNumber 38 = .ok (.getfield 12, 3) := by decide +kernel
theorem dX5_takeNumber_41 : decode cX5_takeNumber 41 = .ok (.getfield 77, 3) := by decide +kernel
theorem dX5_takeNumber_44 : decode cX5_takeNumber 44 = .ok (.iload_n 2, 1) := by decide +kernel
theorem dX5_takeNumber_45 : decode cX5_takeNumber 45 = .ok (.if_icmp .lt 14, 3) := by decide +kernel
theorem dX5_takeNumber_48 : decode cX5_takeNumber 48 = .ok (.aload_n 0, 1) := by decide +kernel
theorem dX5_takeNumber_49 : decode cX5_takeNumber 49 = .ok (.getfield 12, 3) := by decide +kernel
theorem dX5_takeNumber_52 : decode cX5_takeNumber 52 = .ok (.getfield 77, 3) := by decide +kernel
theorem dX5_takeNumber_55 : decode cX5_takeNumber 55 = .ok (.iload_n 3, 1) := by decide +kernel
theorem dX5_takeNumber_56 : decode cX5_takeNumber 56 = .ok (.if_icmp .le 11, 3) := by decide +kernel
theorem dX5_takeNumber_59 : decode cX5_takeNumber 59 = .ok (.aload_n 0, 1) := by decide +kernel
theorem dX5_takeNumber_60 : decode cX5_takeNumber 60 = .ok (.iconst 2, 1) := by decide +kernel
theorem dX5_takeNumber_61 : decode cX5_takeNumber 61 = .ok (.invokevirtual 70, 3) := by decide +kernel
theorem dX5_takeNumber_64 : decode cX5_takeNumber 64 = .ok (.ifCond .eq 7, 3) := by decide +kernel
theorem dX5_takeNumber_67 : decode cX5_takeNumber 67 = .ok (.iconst 1, 1) := by decide +kernel
theorem dX5_takeNumber_68 : decode cX5_takeNumber 68 = .ok (.goto 4, 3) := by decide +kernel
theorem dX5_takeNumber_71 : decode cX5_takeNumber 71 = .ok (.iconst 0, 1) := by decide +kernel
theorem dX5_takeNumber_72 : decode cX5_takeNumber 72 = .ok (.ireturn, 1) := by decide +kernel
theorem dX5_takeEnd_0 : decode cX5_takeEnd 0 = .ok (.aload_n 0, 1) := by decide +kernel
theorem dX5_takeEnd_1 : decode cX5_takeEnd 1 = .ok (.getfield 12, 3) := by decide +kernel
theorem dX5_takeEnd_4 : decode cX5_takeEnd 4 = .ok (.invokevirtual 51, 3) := by decide +kernel
theorem dX5_takeEnd_7 : decode cX5_takeEnd 7 = .ok (.aload_n 0, 1) := by decide +kernel
theorem dX5_takeEnd_8 : decode cX5_takeEnd 8 = .ok (.getfield 12, 3) := by decide +kernel
theorem dX5_takeEnd_11 : decode cX5_takeEnd 11 = .ok (.bipush 59, 2) := by decide +kernel
theorem dX5_takeEnd_13 : decode cX5_takeEnd 13 = .ok (.invokevirtual 126, 3) := by decide +kernel
theorem dX5_takeEnd_16 : decode cX5_takeEnd 16 = .ok (.ifCond .ne 11, 3) := by decide +kernel
theorem dX5_takeEnd_19 : decode cX5_takeEnd 19 = .ok (.aload_n 0, 1) := by decide +kernel
theorem dX5_takeEnd_20 : decode cX5_takeEnd 20 = .ok (.iconst 1, 1) := by decide +kernel
theorem dX5_takeEnd_21 : decode cX5_takeEnd 21 = .ok (.invokevirtual 70, 3) := by decide +kernel
theorem dX5_takeEnd_24 : decode cX5_takeEnd 24 = .ok (.ifCond .eq 7, 3) := by decide +kernel
theorem dX5_takeEnd_27 : decode cX5_takeEnd 27 = .ok (.iconst 1, 1) := by decide +kernel
theorem dX5_takeEnd_28 : decode cX5_takeEnd 28 = .ok (.goto 4, 3) := by decide +kernel
theorem dX5_takeEnd_31 : decode cX5_takeEnd 31 = .ok (.iconst 0, 1) := by decide +kernel
theorem dX5_takeEnd_32 : decode cX5_takeEnd 32 = .ok (.ireturn, 1) := by decide +kernel
theorem dX5_hasRoom_0 : decode cX5_hasRoom 0 = .ok (.aload_n 1, 1) := by decide +kernel
theorem dX5_hasRoom_1 : decode cX5_hasRoom 1 = .ok (.getfield 129, 3) := by decide +kernel
theorem dX5_hasRoom_4 : decode cX5_hasRoom 4 = .ok (.iload_n 2, 1) := by decide +kernel
theorem dX5_hasRoom_5 : decode cX5_hasRoom 5 = .ok (.if_icmp .lt 11, 3) := by decide +kernel
theorem dX5_hasRoom_8 : decode cX5_hasRoom 8 = .ok (.aload_n 0, 1) := by decide +kernel
theorem dX5_hasRoom_9 : decode cX5_hasRoom 9 = .ok (.iconst 2, 1) := by decide +kernel
theorem dX5_hasRoom_10 : decode cX5_hasRoom 10 = .ok (.invokevirtual 70, 3) := by decide +kernel
theorem dX5_hasRoom_13 : decode cX5_hasRoom 13 = .ok (.ifCond .eq 7, 3) := by decide +kernel
theorem dX5_hasRoom_16 : decode cX5_hasRoom 16 = .ok (.iconst 1, 1) := by decide +kernel
theorem dX5_hasRoom_17 : decode cX5_hasRoom 17 = .ok (.goto 4, 3) := by decide +kernel
theorem dX5_hasRoom_20 : decode cX5_hasRoom 20 = .ok (.iconst 0, 1) := by decide +kernel
theorem dX5_hasRoom_21 : decode cX5_hasRoom 21 = .ok (.ireturn, 1) := by decide +kernel
theorem dX5_addRow_0 : decode cX5_addRow 0 = .ok (.aload_n 1, 1) := by decide +kernel
theorem dX5_addRow_1 : decode cX5_addRow 1 = .ok (.aload_n 0, 1) := by decide +kernel
theorem dX5_addRow_2 : decode cX5_addRow 2 = .ok (.getfield 18, 3) := by decide +kernel
theorem dX5_addRow_5 : decode cX5_addRow 5 = .ok (.iconst 0, 1) := by decide +kernel
theorem dX5_addRow_6 : decode cX5_addRow 6 = .ok (.iaload, 1) := by decide +kernel
theorem dX5_addRow_7 : decode cX5_addRow 7 = .ok (.aload_n 0, 1) := by decide +kernel
theorem dX5_addRow_8 : decode cX5_addRow 8 = .ok (.getfield 18, 3) := by decide +kernel
theorem dX5_addRow_11 : decode cX5_addRow 11 = .ok (.iconst 1, 1) := by decide +kernel
theorem dX5_addRow_12 : decode cX5_addRow 12 = .ok (.iaload, 1) := by decide +kernel
theorem dX5_addRow_13 : decode cX5_addRow 13 = .ok (.aload_n 0, 1) := by decide +kernel
theorem dX5_addRow_14 : decode cX5_addRow 14 = .ok (.getfield 18, 3) := by decide +kernel
theorem dX5_addRow_17 : decode cX5_addRow 17 = .ok (.iconst 2, 1) := by decide +kernel
theorem dX5_addRow_18 : decode cX5_addRow 18 = .ok (.iaload, 1) := by decide +kernel
theorem dX5_addRow_19 : decode cX5_addRow 19 = .ok (.aload_n 0, 1) := by decide +kernel
theorem dX5_addRow_20 : decode cX5_addRow 20 = .ok (.getfield 18, 3) := by decide +kernel
theorem dX5_addRow_23 : decode cX5_addRow 23 = .ok (.iconst 3, 1) := by decide +kernel
theorem dX5_addRow_24 : decode cX5_addRow 24 = .ok (.iaload, 1) := by decide +kernel
theorem dX5_addRow_25 : decode cX5_addRow 25 = .ok (.aload_n 0, 1) := by decide +kernel
theorem dX5_addRow_26 : decode cX5_addRow 26 = .ok (.getfield 18, 3) := by decide +kernel
theorem dX5_addRow_29 : decode cX5_addRow 29 = .ok (.iconst 4, 1) := by decide +kernel
theorem dX5_addRow_30 : decode cX5_addRow 30 = .ok (.iaload, 1) := by decide +kernel
theorem dX5_addRow_31 : decode cX5_addRow 31 = .ok (.invokevirtual 132, 3) := by decide +kernel
theorem dX5_addRow_34 : decode cX5_addRow 34 = .ok (.pop, 1) := by decide +kernel
theorem dX5_addRow_35 : decode cX5_addRow 35 = .ok (.iconst 1, 1) := by decide +kernel
theorem dX5_addRow_36 : decode cX5_addRow 36 = .ok (.ireturn, 1) := by decide +kernel
theorem dX5_readPlace_0 : decode cX5_readPlace 0 = .ok (.aload_n 0, 1) := by decide +kernel
theorem dX5_readPlace_1 : decode cX5_readPlace 1 = .ok (.getfield 18, 3) := by decide +kernel
theorem dX5_readPlace_4 : decode cX5_readPlace 4 = .ok (.iconst 1, 1) := by decide +kernel
theorem dX5_readPlace_5 : decode cX5_readPlace 5 = .ok (.iconst 0, 1) := by decide +kernel
theorem dX5_readPlace_6 : decode cX5_readPlace 6 = .ok (.iastore, 1) := by decide +kernel
theorem dX5_readPlace_7 : decode cX5_readPlace 7 = .ok (.aload_n 0, 1) := by decide +kernel
theorem dX5_readPlace_8 : decode cX5_readPlace 8 = .ok (.aload_n 0, 1) := by decide +kernel
theorem dX5_readPlace_9 : decode cX5_readPlace 9 = .ok (.getfield 36, 3) := by decide +kernel
theorem dX5_readPlace_12 : decode cX5_readPlace 12 = .ok (.getfield 136, 3) := by decide +kernel
theorem dX5_readPlace_15 : decode cX5_readPlace 15 = .ok (.bipush 6, 2) := by decide +kernel
theorem dX5_readPlace_17 : decode cX5_readPlace 17 = .ok (.invokevirtual 139, 3) := by decide +kernel
theorem dX5_readPlace_20 : decode cX5_readPlace 20 = .ok (.ifCond .eq 42, 3) := by decide +kernel
theorem dX5_readPlace_23 : decode cX5_readPlace 23 = .ok (.aload_n 0, 1) := by decide +kernel
theorem dX5_readPlace_24 : decode cX5_readPlace 24 = .ok (.aload_n 0, 1) := by decide +kernel
theorem dX5_readPlace_25 : decode cX5_readPlace 25 = .ok (.getfield 36, 3) := by decide +kernel
theorem dX5_readPlace_28 : decode cX5_readPlace 28 = .ok (.getfield 136, 3) := by decide +kernel
theorem dX5_readPlace_31 : decode cX5_readPlace 31 = .ok (.invokevirtual 142, 3) := by decide +kernel
theorem dX5_readPlace_34 : decode cX5_readPlace 34 = .ok (.ifCond .eq 28, 3) := by decide +kernel
theorem dX5_readPlace_37 : decode cX5_readPlace 37 = .ok (.aload_n 0, 1) := by decide +kernel
theorem dX5_readPlace_38 : decode cX5_readPlace 38 = .ok (.invokevirtual 146, 3) := by decide +kernel
theorem dX5_readPlace_41 : decode cX5_readPlace 41 = .ok (.ifCond .eq 21, 3) := by decide +kernel
theorem dX5_readPlace_44 : decode cX5_readPlace 44 = .ok (.aload_n 0, 1) := by decide +kernel
theorem dX5_readPlace_45 : decode cX5_readPlace 45 = .ok (.aload_n 0, 1) := by decide +kernel
theorem dX5_readPlace_46 : decode cX5_readPlace 46 = .ok (.getfield 36, 3) := by decide +kernel
theorem dX5_readPlace_49 : decode cX5_readPlace 49 = .ok (.getfield 136, 3) := by decide +kernel
theorem dX5_readPlace_52 : decode cX5_readPlace 52 = .ok (.invokevirtual 149, 3) := by decide +kernel
theorem dX5_readPlace_55 : decode cX5_readPlace 55 = .ok (.ifCond .eq 7, 3) := by decide +kernel
theorem dX5_readPlace_58 : decode cX5_readPlace 58 = .ok (.iconst 1, 1) := by decide +kernel
theorem dX5_readPlace_59 : decode cX5_readPlace 59 = .ok (.goto 4, 3) := by decide +kernel
theorem dX5_readPlace_62 : decode cX5_readPlace 62 = .ok (.iconst 0, 1) := by decide +kernel
theorem dX5_readPlace_63 : decode cX5_readPlace 63 = .ok (.ireturn, 1) := by decide +kernel
theorem dX5_readOwner_0 : decode cX5_readOwner 0 = .ok (.aload_n 0, 1) := by decide +kernel
theorem dX5_readOwner_1 : decode cX5_readOwner 1 = .ok (.getfield 18, 3) := by decide +kernel
theorem dX5_readOwner_4 : decode cX5_readOwner 4 = .ok (.iconst 2, 1) := by decide +kernel
theorem dX5_readOwner_5 : decode cX5_readOwner 5 = .ok (.iconst (-1), 1) := by decide +kernel
theorem dX5_readOwner_6 : decode cX5_readOwner 6 = .ok (.iastore, 1) := by decide +kernel
theorem dX5_readOwner_7 : decode cX5_readOwner 7 = .ok (.aload_n 0, 1) := by decide +kernel
theorem dX5_readOwner_8 : decode cX5_readOwner 8 = .ok (.aload_n 0, 1) := by decide +kernel
theorem dX5_readOwner_9 : decode cX5_readOwner 9 = .ok (.getfield 36, 3) := by decide +kernel
theorem dX5_readOwner_12 : decode cX5_readOwner 12 = .ok (.getfield 152, 3) := by decide +kernel
theorem dX5_readOwner_15 : decode cX5_readOwner 15 = .ok (.iconst 4, 1) := by decide +kernel
theorem dX5_readOwner_16 : decode cX5_readOwner 16 = .ok (.invokevirtual 139, 3) := by decide +kernel
theorem dX5_readOwner_19 : decode cX5_readOwner 19 = .ok (.ifCond .eq 54, 3) := by decide +kernel
theorem dX5_readOwner_22 : decode cX5_readOwner 22 = .ok (.aload_n 0, 1) := by decide +kernel
theorem dX5_readOwner_23 : decode cX5_readOwner 23 = .ok (.aload_n 0, 1) := by decide +kernel
theorem dX5_readOwner_24 : decode cX5_readOwner 24 = .ok (.getfield 36, 3) := by decide +kernel
theorem dX5_readOwner_27 : decode cX5_readOwner 27 = .ok (.getfield 152, 3) := by decide +kernel
theorem dX5_readOwner_30 : decode cX5_readOwner 30 = .ok (.invokevirtual 142, 3) := by decide +kernel
theorem dX5_readOwner_33 : decode cX5_readOwner 33 = .ok (.ifCond .eq 40, 3) := by decide +kernel
theorem dX5_readOwner_36 : decode cX5_readOwner 36 = .ok (.aload_n 0, 1) := by decide +kernel
theorem dX5_readOwner_37 : decode cX5_readOwner 37 = .ok (.iconst 1, 1) := by decide +kernel
theorem dX5_readOwner_38 : decode cX5_readOwner 38 = .ok (.iconst 0, 1) := by decide +kernel
theorem dX5_readOwner_39 : decode cX5_readOwner 39 = .ok (.sipush 999, 3) := by decide +kernel
theorem dX5_readOwner_42 : decode cX5_readOwner 42 = .ok (.invokevirtual 155, 3) := by decide +kernel
theorem dX5_readOwner_45 : decode cX5_readOwner 45 = .ok (.ifCond .eq 28, 3) := by decide +kernel
theorem dX5_readOwner_48 : decode cX5_readOwner 48 = .ok (.aload_n 0, 1) := by decide +kernel
theorem dX5_readOwner_49 : decode cX5_readOwner 49 = .ok (.invokevirtual 146, 3) := by decide +kernel
theorem dX5_readOwner_52 : decode cX5_readOwner 52 = .ok (.ifCond .eq 21, 3) := by decide +kernel
theorem dX5_readOwner_55 : decode cX5_readOwner 55 = .ok (.aload_n 0, 1) := by decide +kernel
theorem dX5_readOwner_56 : decode cX5_readOwner 56 = .ok (.aload_n 0, 1) := by decide +kernel
theorem dX5_readOwner_57 : decode cX5_readOwner 57 = .ok (.getfield 36, 3) := by decide +kernel
theorem dX5_readOwner_60 : decode cX5_readOwner 60 = .ok (.getfield 152, 3) := by decide +kernel
theorem dX5_readOwner_63 : decode cX5_readOwner 63 = .ok (.invokevirtual 149, 3) := by decide +kernel
theorem dX5_readOwner_66 : decode cX5_readOwner 66 = .ok (.ifCond .eq 7, 3) := by decide +kernel
theorem dX5_readOwner_69 : decode cX5_readOwner 69 = .ok (.iconst 1, 1) := by decide +kernel
theorem dX5_readOwner_70 : decode cX5_readOwner 70 = .ok (.goto 4, 3) := by decide +kernel
theorem dX5_readOwner_73 : decode cX5_readOwner 73 = .ok (.iconst 0, 1) := by decide +kernel
theorem dX5_readOwner_74 : decode cX5_readOwner 74 = .ok (.ireturn, 1) := by decide +kernel
theorem dX5_readLink_0 : decode cX5_readLink 0 = .ok (.aload_n 0, 1) := by decide +kernel
theorem dX5_readLink_1 : decode cX5_readLink 1 = .ok (.aload_n 0, 1) := by decide +kernel
theorem dX5_readLink_2 : decode cX5_readLink 2 = .ok (.getfield 36, 3) := by decide +kernel
theorem dX5_readLink_5 : decode cX5_readLink 5 = .ok (.getfield 158, 3) := by decide +kernel
theorem dX5_readLink_8 : decode cX5_readLink 8 = .ok (.bipush 9, 2) := by decide +kernel
theorem dX5_readLink_10 : decode cX5_readLink 10 = .ok (.invokevirtual 139, 3) := by decide +kernel
theorem dX5_readLink_13 : decode cX5_readLink 13 = .ok (.ifCond .eq 33, 3) := by decide +kernel
theorem dX5_readLink_16 : decode cX5_readLink 16 = .ok (.aload_n 0, 1) := by decide +kernel
theorem dX5_readLink_17 : decode cX5_readLink 17 = .ok (.aload_n 0, 1) := by decide +kernel
theorem dX5_readLink_18 : decode cX5_readLink 18 = .ok (.getfield 36, 3) := by decide +kernel
theorem dX5_readLink_21 : decode cX5_readLink 21 = .ok (.getfield 136, 3) := by decide +kernel
theorem dX5_readLink_24 : decode cX5_readLink 24 = .ok (.iconst 0, 1) := by decide +kernel
theorem dX5_readLink_25 : decode cX5_readLink 25 = .ok (.invokevirtual 161, 3) := by decide +kernel
theorem dX5_readLink_28 : decode cX5_readLink 28 = .ok (.ifCond .eq 18, 3) := by decide +kernel
theorem dX5_readLink_31 : decode cX5_readLink 31 = .ok (.aload_n 0, 1) := by decide +kernel
theorem dX5_readLink_32 : decode cX5_readLink 32 = .ok (.aload_n 0, 1) := by decide +kernel
theorem dX5_readLink_33 : decode cX5_readLink 33 = .ok (.getfield 36, 3) := by decide +kernel
theorem dX5_readLink_36 : decode cX5_readLink 36 = .ok (.getfield 136, 3) := by decide +kernel
theorem dX5_readLink_39 : decode cX5_readLink 39 = .ok (.iconst 1, 1) := by decide +kernel
theorem dX5_readLink_40 : decode cX5_readLink 40 = .ok (.invokevirtual 161, 3) := by decide +kernel
theorem dX5_readLink_43 : decode cX5_readLink 43 = .ok (.ifCond .ne 5, 3) := by decide +kernel
theorem dX5_readLink_46 : decode cX5_readLink 46 = .ok (.iconst 0, 1) := by decide +kernel
theorem dX5_readLink_47 : decode cX5_readLink 47 = .ok (.ireturn, 1) := by decide +kernel
theorem dX5_readLink_48 : decode cX5_readLink 48 = .ok (.aload_n 0, 1) := by decide +kernel
theorem dX5_readLink_49 : decode cX5_readLink 49 = .ok (.getfield 18, 3) := by decide +kernel
theorem dX5_readLink_52 : decode cX5_readLink 52 = .ok (.iconst 0, 1) := by decide +kernel
theorem dX5_readLink_53 : decode cX5_readLink 53 = .ok (.iaload, 1) := by decide +kernel
theorem dX5_readLink_54 : decode cX5_readLink 54 = .ok (.aload_n 0, 1) := by decide +kernel
theorem dX5_readLink_55 : decode cX5_readLink 55 = .ok (.getfield 18, 3) := by decide +kernel
theorem dX5_readLink_58 : decode cX5_readLink 58 = .ok (.iconst 1, 1) := by decide +kernel
theorem dX5_readLink_59 : decode cX5_readLink 59 = .ok (.iaload, 1) := by decide +kernel
theorem dX5_readLink_60 : decode cX5_readLink 60 = .ok (.if_icmp .ne 9, 3) := by decide +kernel
theorem dX5_readLink_63 : decode cX5_readLink 63 = .ok (.aload_n 0, 1) := by decide +kernel
theorem dX5_readLink_64 : decode cX5_readLink 64 = .ok (.iconst 5, 1) := by decide +kernel
theorem dX5_readLink_65 : decode cX5_readLink 65 = .ok (.invokevirtual 70, 3) := by decide +kernel
theorem dX5_readLink_68 : decode cX5_readLink 68 = .ok (.ireturn, 1) := by decide +kernel
theorem dX5_readLink_69 : decode cX5_readLink 69 = .ok (.aload_n 0, 1) := by decide +kernel
theorem dX5_readLink_70 : decode cX5_readLink 70 = .ok (.aload_n 0, 1) := by decide +kernel
theorem dX5_readLink_71 : decode cX5_readLink 71 = .ok (.getfield 18, 3) := by decide +kernel
theorem dX5_readLink_74 : decode cX5_readLink 74 = .ok (.iconst 0, 1) := by decide +kernel
theorem dX5_readLink_75 : decode cX5_readLink 75 = .ok (.iaload, 1) := by decide +kernel
theorem dX5_readLink_76 : decode cX5_readLink 76 = .ok (.aload_n 0, 1) := by decide +kernel
theorem dX5_readLink_77 : decode cX5_readLink 77 = .ok (.getfield 18, 3) := by decide +kernel
theorem dX5_readLink_80 : decode cX5_readLink 80 = .ok (.iconst 1, 1) := by decide +kernel
theorem dX5_readLink_81 : decode cX5_readLink 81 = .ok (.iaload, 1) := by decide +kernel
theorem dX5_readLink_82 : decode cX5_readLink 82 = .ok (.invokevirtual 164, 3) := by decide +kernel
theorem dX5_readLink_85 : decode cX5_readLink 85 = .ok (.ifCond .ne 22, 3) := by decide +kernel
theorem dX5_readLink_88 : decode cX5_readLink 88 = .ok (.aload_n 0, 1) := by decide +kernel
theorem dX5_readLink_89 : decode cX5_readLink 89 = .ok (.aload_n 0, 1) := by decide +kernel
theorem dX5_readLink_90 : decode cX5_readLink 90 = .ok (.getfield 18, 3) := by decide +kernel
theorem dX5_readLink_93 : decode cX5_readLink 93 = .ok (.iconst 1, 1) := by decide +kernel
theorem dX5_readLink_94 : decode cX5_readLink 94 = .ok (.iaload, 1) := by decide +kernel
theorem dX5_readLink_95 : decode cX5_readLink 95 = .ok (.aload_n 0, 1) := by decide +kernel
theorem dX5_readLink_96 : decode cX5_readLink 96 = .ok (.getfield 18, 3) := by decide +kernel
theorem dX5_readLink_99 : decode cX5_readLink 99 = .ok (.iconst 0, 1) := by decide +kernel
theorem dX5_readLink_100 : decode cX5_readLink 100 = .ok (.iaload, 1) := by decide +kernel
theorem dX5_readLink_101 : decode cX5_readLink 101 = .ok (.invokevirtual 164, 3) := by decide +kernel
theorem dX5_readLink_104 : decode cX5_readLink 104 = .ok (.ifCond .eq 9, 3) := by decide +kernel
theorem dX5_readLink_107 : decode cX5_readLink 107 = .ok (.aload_n 0, 1) := by decide +kernel
theorem dX5_readLink_108 : decode cX5_readLink 108 = .ok (.iconst 3, 1) := by decide +kernel
theorem dX5_readLink_109 : decode cX5_readLink 109 = .ok (.invokevirtual 70, 3) := by decide +kernel
theorem dX5_readLink_112 : decode cX5_readLink 112 = .ok (.ireturn, 1) := by decide +kernel
theorem dX5_readLink_113 : decode cX5_readLink 113 = .ok (.aload_n 0, 1) := by decide +kernel
theorem dX5_readLink_114 : decode cX5_readLink 114 = .ok (.getfield 18, 3) := by decide +kernel
theorem dX5_readLink_117 : decode cX5_readLink 117 = .ok (.iconst 3, 1) := by decide +kernel
theorem dX5_readLink_118 : decode cX5_readLink 118 = .ok (.iconst 0, 1) := by decide +kernel
theorem dX5_readLink_119 : decode cX5_readLink 119 = .ok (.iastore, 1) := by decide +kernel
theorem dX5_readLink_120 : decode cX5_readLink 120 = .ok (.aload_n 0, 1) := by decide +kernel
theorem dX5_readLink_121 : decode cX5_readLink 121 = .ok (.iconst 2, 1) := by decide +kernel
theorem dX5_readLink_122 : decode cX5_readLink 122 = .ok (.iconst 1, 1) := by decide +kernel
theorem dX5_readLink_123 : decode cX5_readLink 123 = .ok (.bipush 9, 2) := by decide +kernel
theorem dX5_readLink_125 : decode cX5_readLink 125 = .ok (.invokevirtual 155, 3) := by decide +kernel
theorem dX5_readLink_128 : decode cX5_readLink 128 = .ok (.ifCond .eq 28, 3) := by decide +kernel
theorem dX5_readLink_131 : decode cX5_readLink 131 = .ok (.aload_n 0, 1) := by decide +kernel
theorem dX5_readLink_132 : decode cX5_readLink 132 = .ok (.invokevirtual 146, 3) := by decide +kernel
theorem dX5_readLink_135 : decode cX5_readLink 135 = .ok (.ifCond .eq 21, 3) := by decide +kernel
theorem dX5_readLink_138 : decode cX5_readLink 138 = .ok (.aload_n 0, 1) := by decide +kernel
theorem dX5_readLink_139 : decode cX5_readLink 139 = .ok (.aload_n 0, 1) := by decide +kernel
theorem dX5_readLink_140 : decode cX5_readLink 140 = .ok (.getfield 36, 3) := by decide +kernel
theorem dX5_readLink_143 : decode cX5_readLink 143 = .ok (.getfield 158, 3) := by decide +kernel
theorem dX5_readLink_146 : decode cX5_readLink 146 = .ok (.invokevirtual 149, 3) := by decide +kernel
theorem dX5_readLink_149 : decode cX5_readLink 149 = .ok (.ifCond .eq 7, 3) := by decide +kernel
theorem dX5_readLink_152 : decode cX5_readLink 152 = .ok (.iconst 1, 1) := by decide +kernel
theorem dX5_readLink_153 : decode cX5_readLink 153 = .ok (.goto 4, 3) := by decide +kernel
theorem dX5_readLink_156 : decode cX5_readLink 156 = .ok (.iconst 0, 1) := by decide +kernel
theorem dX5_readLink_157 : decode cX5_readLink 157 = .ok (.ireturn, 1) := by decide +kernel
theorem dX5_isLinked_0 : decode cX5_isLinked 0 = .ok (.iconst 0, 1) := by decide +kernel
theorem dX5_isLinked_1 : decode cX5_isLinked 1 = .ok (.istore_n 3, 1) := by decide +kernel
theorem dX5_isLinked_2 : decode cX5_isLinked 2 = .ok (.iload_n 3, 1) := by decide +kernel
theorem dX5_isLinked_3 : decode cX5_isLinked 3 = .ok (.aload_n 0, 1) := by decide +kernel
theorem dX5_isLinked_4 : decode cX5_isLinked 4 = .ok (.getfield 36, 3) := by decide +kernel
theorem dX5_isLinked_7 : decode cX5_isLinked 7 = .ok (.getfield 158, 3) := by decide +kernel
theorem dX5_isLinked_10 : decode cX5_isLinked 10 = .ok (.getfield 129, 3) := by decide +kernel
theorem dX5_isLinked_13 : decode cX5_isLinked 13 = .ok (.if_icmp .ge 43, 3) := by decide +kernel
theorem dX5_isLinked_16 : decode cX5_isLinked 16 = .ok (.aload_n 0, 1) := by decide +kernel
theorem dX5_isLinked_17 : decode cX5_isLinked 17 = .ok (.getfield 36, 3) := by decide +kernel
theorem dX5_isLinked_20 : decode cX5_isLinked 20 = .ok (.getfield 158, 3) := by decide +kernel
theorem dX5_isLinked_23 : decode cX5_isLinked 23 = .ok (.iload_n 3, 1) := by decide +kernel
theorem dX5_isLinked_24 : decode cX5_isLinked 24 = .ok (.iconst 0, 1) := by decide +kernel
theorem dX5_isLinked_25 : decode cX5_isLinked 25 = .ok (.invokevirtual 168, 3) := by decide +kernel
theorem dX5_isLinked_28 : decode cX5_isLinked 28 = .ok (.iload_n 1, 1) := by decide +kernel
theorem dX5_isLinked_29 : decode cX5_isLinked 29 = .ok (.if_icmp .ne 21, 3) := by decide +kernel
theorem dX5_isLinked_32 : decode cX5_isLinked 32 = .ok (.aload_n 0, 1) := by decide +kernel
theorem dX5_isLinked_33 : decode cX5_isLinked 33 = .ok (.getfield 36, 3) := by decide +kernel
theorem dX5_isLinked_36 : decode cX5_isLinked 36 = .ok (.getfield 158, 3) := by decide +kernel
theorem dX5_isLinked_39 : decode cX5_isLinked 39 = .ok (.iload_n 3, 1) := by decide +kernel
theorem dX5_isLinked_40 : decode cX5_isLinked 40 = .ok (.iconst 1, 1) := by decide +kernel
theorem dX5_isLinked_41 : decode cX5_isLinked 41 = .ok (.invokevirtual 168, 3) := by decide +kernel
theorem dX5_isLinked_44 : decode cX5_isLinked 44 = .ok (.iload_n 2, 1) := by decide +kernel
theorem dX5_isLinked_45 : decode cX5_isLinked 45 = .ok (.if_icmp .ne 5, 3) := by decide +kernel
theorem dX5_isLinked_48 : decode cX5_isLinked 48 = .ok (.iconst 1, 1) := by decide +kernel
theorem dX5_isLinked_49 : decode cX5_isLinked 49 = .ok (.ireturn, 1) := by decide +kernel
theorem dX5_isLinked_50 : decode cX5_isLinked 50 = .ok (.iinc 3 1, 3) := by decide +kernel
theorem dX5_isLinked_53 : decode cX5_isLinked 53 = .ok (.goto (-51), 3) := by decide +kernel
theorem dX5_isLinked_56 : decode cX5_isLinked 56 = .ok (.iconst 0, 1) := by decide +kernel
theorem dX5_isLinked_57 : decode cX5_isLinked 57 = .ok (.ireturn, 1) := by decide +kernel
theorem dX5_readHeir_0 : decode cX5_readHeir 0 = .ok (.aload_n 0, 1) := by decide +kernel
theorem dX5_readHeir_1 : decode cX5_readHeir 1 = .ok (.aload_n 0, 1) := by decide +kernel
theorem dX5_readHeir_2 : decode cX5_readHeir 2 = .ok (.getfield 36, 3) := by decide +kernel
theorem dX5_readHeir_5 : decode cX5_readHeir 5 = .ok (.getfield 152, 3) := by decide +kernel
theorem dX5_readHeir_8 : decode cX5_readHeir 8 = .ok (.iconst 0, 1) := by decide +kernel
theorem dX5_readHeir_9 : decode cX5_readHeir 9 = .ok (.invokevirtual 161, 3) := by decide +kernel
theorem dX5_readHeir_12 : decode cX5_readHeir 12 = .ok (.ifCond .ne 5, 3) := by decide +kernel
theorem dX5_readHeir_15 : decode cX5_readHeir 15 = .ok (.iconst 0, 1) := by decide +kernel
theorem dX5_readHeir_16 : decode cX5_readHeir 16 = .ok (.ireturn, 1) := by decide +kernel
theorem dX5_readHeir_17 : decode cX5_readHeir 17 = .ok (.aload_n 0, 1) := by decide +kernel
theorem dX5_readHeir_18 : decode cX5_readHeir 18 = .ok (.getfield 36, 3) := by decide +kernel
theorem dX5_readHeir_21 : decode cX5_readHeir 21 = .ok (.getfield 152, 3) := by decide +kernel
theorem dX5_readHeir_24 : decode cX5_readHeir 24 = .ok (.aload_n 0, 1) := by decide +kernel
theorem dX5_readHeir_25 : decode cX5_readHeir 25 = .ok (.getfield 18, 3) := by decide +kernel
theorem dX5_readHeir_28 : decode cX5_readHeir 28 = .ok (.iconst 0, 1) := by decide +kernel
theorem dX5_readHeir_29 : decode cX5_readHeir 29 = .ok (.iaload, 1) := by decide +kernel
theorem dX5_readHeir_30 : decode cX5_readHeir 30 = .ok (.iconst 2, 1) := by decide +kernel
theorem dX5_readHeir_31 : decode cX5_readHeir 31 = .ok (.invokevirtual 168, 3) := by decide +kernel
theorem dX5_readHeir_34 : decode cX5_readHeir 34 = .ok (.iconst (-1), 1) := by decide +kernel
theorem dX5_readHeir_35 : decode cX5_readHeir 35 = .ok (.if_icmp .eq 9, 3) := by decide +kernel
theorem dX5_readHeir_38 : decode cX5_readHeir 38 = .ok (.aload_n 0, 1) := by decide +kernel
theorem dX5_readHeir_39 : decode cX5_readHeir 39 = .ok (.iconst 3, 1) := by decide +kernel
theorem dX5_readHeir_40 : decode cX5_readHeir 40 = .ok (.invokevirtual 70, 3) := by decide +kernel
theorem dX5_readHeir_43 : decode cX5_readHeir 43 = .ok (.ireturn, 1) := by decide +kernel
theorem dX5_readHeir_44 : decode cX5_readHeir 44 = .ok (.aload_n 0, 1) := by decide +kernel
theorem dX5_readHeir_45 : decode cX5_readHeir 45 = .ok (.aload_n 0, 1) := by decide +kernel
theorem dX5_readHeir_46 : decode cX5_readHeir 46 = .ok (.getfield 36, 3) := by decide +kernel
theorem dX5_readHeir_49 : decode cX5_readHeir 49 = .ok (.getfield 152, 3) := by decide +kernel
theorem dX5_readHeir_52 : decode cX5_readHeir 52 = .ok (.iconst 1, 1) := by decide +kernel
theorem dX5_readHeir_53 : decode cX5_readHeir 53 = .ok (.invokevirtual 161, 3) := by decide +kernel
theorem dX5_readHeir_56 : decode cX5_readHeir 56 = .ok (.ifCond .ne 5, 3) := by decide +kernel
theorem dX5_readHeir_59 : decode cX5_readHeir 59 = .ok (.iconst 0, 1) := by decide +kernel
theorem dX5_readHeir_60 : decode cX5_readHeir 60 = .ok (.ireturn, 1) := by decide +kernel
theorem dX5_readHeir_61 : decode cX5_readHeir 61 = .ok (.aload_n 0, 1) := by decide +kernel
theorem dX5_readHeir_62 : decode cX5_readHeir 62 = .ok (.getfield 18, 3) := by decide +kernel
theorem dX5_readHeir_65 : decode cX5_readHeir 65 = .ok (.iconst 0, 1) := by decide +kernel
theorem dX5_readHeir_66 : decode cX5_readHeir 66 = .ok (.iaload, 1) := by decide +kernel
theorem dX5_readHeir_67 : decode cX5_readHeir 67 = .ok (.aload_n 0, 1) := by decide +kernel
theorem dX5_readHeir_68 : decode cX5_readHeir 68 = .ok (.getfield 18, 3) := by decide +kernel
theorem dX5_readHeir_71 : decode cX5_readHeir 71 = .ok (.iconst 1, 1) := by decide +kernel
theorem dX5_readHeir_72 : decode cX5_readHeir 72 = .ok (.iaload, 1) := by decide +kernel
theorem dX5_readHeir_73 : decode cX5_readHeir 73 = .ok (.if_icmp .ne 9, 3) := by decide +kernel
theorem dX5_readHeir_76 : decode cX5_readHeir 76 = .ok (.aload_n 0, 1) := by decide +kernel
theorem dX5_readHeir_77 : decode cX5_readHeir 77 = .ok (.iconst 5, 1) := by decide +kernel
theorem dX5_readHeir_78 : decode cX5_readHeir 78 = .ok (.invokevirtual 70, 3) := by decide +kernel
theorem dX5_readHeir_81 : decode cX5_readHeir 81 = .ok (.ireturn, 1) := by decide +kernel
theorem dX5_readHeir_82 : decode cX5_readHeir 82 = .ok (.aload_n 0, 1) := by decide +kernel
theorem dX5_readHeir_83 : decode cX5_readHeir 83 = .ok (.getfield 36, 3) := by decide +kernel
theorem dX5_readHeir_86 : decode cX5_readHeir 86 = .ok (.getfield 152, 3) := by decide +kernel
theorem dX5_readHeir_89 : decode cX5_readHeir 89 = .ok (.aload_n 0, 1) := by decide +kernel
theorem dX5_readHeir_90 : decode cX5_readHeir 90 = .ok (.getfield 18, 3) := by decide +kernel
theorem dX5_readHeir_93 : decode cX5_readHeir 93 = .ok (.iconst 0, 1) := by decide +kernel
theorem dX5_readHeir_94 : decode cX5_readHeir 94 = .ok (.iaload, 1) := by decide +kernel
theorem dX5_readHeir_95 : decode cX5_readHeir 95 = .ok (.iconst 2, 1) := by decide +kernel
theorem dX5_readHeir_96 : decode cX5_readHeir 96 = .ok (.aload_n 0, 1) := by decide +kernel
theorem dX5_readHeir_97 : decode cX5_readHeir 97 = .ok (.getfield 18, 3) := by decide +kernel
theorem dX5_readHeir_100 : decode cX5_readHeir 100 = .ok (.iconst 1, 1) := by decide +kernel
theorem dX5_readHeir_101 : decode cX5_readHeir 101 = .ok (.iaload, 1) := by decide +kernel
theorem dX5_readHeir_102 : decode cX5_readHeir 102 = .ok (.invokevirtual 170, 3) := by decide +kernel
theorem dX5_readHeir_105 : decode cX5_readHeir 105 = .ok (.aload_n 0, 1) := by decide +kernel
theorem dX5_readHeir_106 : decode cX5_readHeir 106 = .ok (.invokevirtual 146, 3) := by decide +kernel
theorem dX5_readHeir_109 : decode cX5_readHeir 109 = .ok (.ireturn, 1) := by decide +kernel
theorem dX5_readNoise_0 : decode cX5_readNoise 0 = .ok (.aload_n 0, 1) := by decide +kernel
theorem dX5_readNoise_1 : decode cX5_readNoise 1 = .ok (.aload_n 0, 1) := by decide +kernel
theorem dX5_readNoise_2 : decode cX5_readNoise 2 = .ok (.getfield 36, 3) := by decide +kernel
theorem dX5_readNoise_5 : decode cX5_readNoise 5 = .ok (.getfield 174, 3) := by decide +kernel
theorem dX5_readNoise_8 : decode cX5_readNoise 8 = .ok (.bipush 8, 2) := by decide +kernel
theorem dX5_readNoise_10 : decode cX5_readNoise 10 = .ok (.invokevirtual 139, 3) := by decide +kernel
theorem dX5_readNoise_13 : decode cX5_readNoise 13 = .ok (.ifCond .eq 96, 3) := by decide +kernel
theorem dX5_readNoise_16 : decode cX5_readNoise 16 = .ok (.aload_n 0, 1) := by decide +kernel
theorem dX5_readNoise_17 : decode cX5_readNoise 17 = .ok (.aload_n 0, 1) := by decide +kernel
theorem dX5_readNoise_18 : decode cX5_readNoise 18 = .ok (.getfield 36, 3) := by decide +kernel
theorem dX5_readNoise_21 : decode cX5_readNoise 21 = .ok (.getfield 136, 3) := by decide +kernel
theorem dX5_readNoise_24 : decode cX5_readNoise 24 = .ok (.iconst 0, 1) := by decide +kernel
theorem dX5_readNoise_25 : decode cX5_readNoise 25 = .ok (.invokevirtual 161, 3) := by decide +kernel
theorem dX5_readNoise_28 : decode cX5_readNoise 28 = .ok (.ifCond .eq 81, 3) := by decide +kernel
theorem dX5_readNoise_31 : decode cX5_readNoise 31 = .ok (.aload_n 0, 1) := by decide +kernel
theorem dX5_readNoise_32 : decode cX5_readNoise 32 = .ok (.aload_n 0, 1) := by decide +kernel
theorem dX5_readNoise_33 : decode cX5_readNoise 33 = .ok (.getfield 36, 3) := by decide +kernel
theorem dX5_readNoise_36 : decode cX5_readNoise 36 = .ok (.getfield 152, 3) := by decide +kernel
theorem dX5_readNoise_39 : decode cX5_readNoise 39 = .ok (.iconst 1, 1) := by decide +kernel
theorem dX5_readNoise_40 : decode cX5_readNoise 40 = .ok (.invokevirtual 161, 3) := by decide +kernel
theorem dX5_readNoise_43 : decode cX5_readNoise 43 = .ok (.ifCond .eq 66, 3) := by decide +kernel
theorem dX5_readNoise_46 : decode cX5_readNoise 46 = .ok (.aload_n 0, 1) := by decide +kernel
theorem dX5_readNoise_47 : decode cX5_readNoise 47 = .ok (.iconst 2, 1) := by decide +kernel
theorem dX5_readNoise_48 : decode cX5_readNoise 48 = .ok (.iconst 0, 1) := by decide +kernel
theorem dX5_readNoise_49 : decode cX5_readNoise 49 = .ok (.bipush 47, 2) := by decide +kernel
theorem dX5_readNoise_51 : decode cX5_readNoise 51 = .ok (.invokevirtual 155, 3) := by decide +kernel
theorem dX5_readNoise_54 : decode cX5_readNoise 54 = .ok (.ifCond .eq 55, 3) := by decide +kernel
theorem dX5_readNoise_57 : decode cX5_readNoise 57 = .ok (.aload_n 0, 1) := by decide +kernel
theorem dX5_readNoise_58 : decode cX5_readNoise 58 = .ok (.iconst 3, 1) := by decide +kernel
theorem dX5_readNoise_59 : decode cX5_readNoise 59 = .ok (.aload_n 0, 1) := by decide +kernel
theorem dX5_readNoise_60 : decode cX5_readNoise 60 = .ok (.getfield 18, 3) := by decide +kernel
theorem dX5_readNoise_63 : decode cX5_readNoise 63 = .ok (.iconst 2, 1) := by decide +kernel
theorem dX5_readNoise_64 : decode cX5_readNoise 64 = .ok (.iaload, 1) := by decide +kernel
theorem dX5_readNoise_65 : decode cX5_readNoise 65 = .ok (.bipush 47, 2) := by decide +kernel
theorem dX5_readNoise_67 : decode cX5_readNoise 67 = .ok (.invokevirtual 155, 3) := by decide +kernel
theorem dX5_readNoise_70 : decode cX5_readNoise 70 = .ok (.ifCond .eq 39, 3) := by decide +kernel
theorem dX5_readNoise_73 : decode cX5_readNoise 73 = .ok (.aload_n 0, 1) := by decide +kernel
theorem dX5_readNoise_74 : decode cX5_readNoise 74 = .ok (.iconst 4, 1) := by decide +kernel
theorem dX5_readNoise_75 : decode cX5_readNoise 75 = .ok (.iconst 1, 1) := by decide +kernel
theorem dX5_readNoise_76 : decode cX5_readNoise 76 = .ok (.bipush 20, 2) := by decide +kernel
theorem dX5_readNoise_78 : decode cX5_readNoise 78 = .ok (.invokevirtual 155, 3) := by decide +kernel
theorem dX5_readNoise_81 : decode cX5_readNoise 81 = .ok (.ifCond .eq 28, 3) := by decide +kernel
theorem dX5_readNoise_84 : decode cX5_readNoise 84 = .ok (.aload_n 0, 1) := by decide +kernel
theorem dX5_readNoise_85 : decode cX5_readNoise 85 = .ok (.invokevirtual 146, 3) := by decide +kernel
theorem dX5_readNoise_88 : decode cX5_readNoise 88 = .ok (.ifCond .eq 21, 3) := by decide +kernel
theorem dX5_readNoise_91 : decode cX5_readNoise 91 = .ok (.aload_n 0, 1) := by decide +kernel
theorem dX5_readNoise_92 : decode cX5_readNoise 92 = .ok (.aload_n 0, 1) := by decide +kernel
theorem dX5_readNoise_93 : decode cX5_readNoise 93 = .ok (.getfield 36, 3) := by decide +kernel
theorem dX5_readNoise_96 : decode cX5_readNoise 96 = .ok (.getfield 174, 3) := by decide +kernel
theorem dX5_readNoise_99 : decode cX5_readNoise 99 = .ok (.invokevirtual 149, 3) := by decide +kernel
theorem dX5_readNoise_102 : decode cX5_readNoise 102 = .ok (.ifCond .eq 7, 3) := by decide +kernel
theorem dX5_readNoise_105 : decode cX5_readNoise 105 = .ok (.iconst 1, 1) := by decide +kernel
theorem dX5_readNoise_106 : decode cX5_readNoise 106 = .ok (.goto 4, 3) := by decide +kernel
theorem dX5_readNoise_109 : decode cX5_readNoise 109 = .ok (.iconst 0, 1) := by decide +kernel
theorem dX5_readNoise_110 : decode cX5_readNoise 110 = .ok (.ireturn, 1) := by decide +kernel
theorem dX5_readHolding_0 : decode cX5_readHolding 0 = .ok (.aload_n 0, 1) := by decide +kernel
theorem dX5_readHolding_1 : decode cX5_readHolding 1 = .ok (.aload_n 1, 1) := by decide +kernel
theorem dX5_readHolding_2 : decode cX5_readHolding 2 = .ok (.iload_n 2, 1) := by decide +kernel
theorem dX5_readHolding_3 : decode cX5_readHolding 3 = .ok (.invokevirtual 139, 3) := by decide +kernel
theorem dX5_readHolding_6 : decode cX5_readHolding 6 = .ok (.ifCond .eq 79, 3) := by decide +kernel
theorem dX5_readHolding_9 : decode cX5_readHolding 9 = .ok (.aload_n 0, 1) := by decide +kernel
theorem dX5_readHolding_10 : decode cX5_readHolding 10 = .ok (.aload_n 0, 1) := by decide +kernel
theorem dX5_readHolding_11 : decode cX5_readHolding 11 = .ok (.getfield 36, 3) := by decide +kernel
theorem dX5_readHolding_14 : decode cX5_readHolding 14 = .ok (.getfield 152, 3) := by decide +kernel
theorem dX5_readHolding_17 : decode cX5_readHolding 17 = .ok (.iconst 0, 1) := by decide +kernel
theorem dX5_readHolding_18 : decode cX5_readHolding 18 = .ok (.invokevirtual 161, 3) := by decide +kernel
theorem dX5_readHolding_21 : decode cX5_readHolding 21 = .ok (.ifCond .eq 64, 3) := by decide +kernel
theorem dX5_readHolding_24 : decode cX5_readHolding 24 = .ok (.aload_n 0, 1) := by decide +kernel
theorem dX5_readHolding_25 : decode cX5_readHolding 25 = .ok (.aload_n 0, 1) := by decide +kernel
theorem dX5_readHolding_26 : decode cX5_readHolding 26 = .ok (.getfield 36, 3) := by decide +kernel
theorem dX5_readHolding_29 : decode cX5_readHolding 29 = .ok (.getfield 136, 3) := by decide +kernel
theorem dX5_readHolding_32 : decode cX5_readHolding 32 = .ok (.iconst 1, 1) := by decide +kernel
theorem dX5_readHolding_33 : decode cX5_readHolding 33 = .ok (.invokevirtual 161, 3) := by decide +kernel
theorem dX5_readHolding_36 : decode cX5_readHolding 36 = .ok (.ifCond .eq 49, 3) := by decide +kernel
theorem dX5_readHolding_39 : decode cX5_readHolding 39 = .ok (.aload_n 0, 1) := by decide +kernel
theorem dX5_readHolding_40 : decode cX5_readHolding 40 = .ok (.iconst 2, 1) := by decide +kernel
theorem dX5_readHolding_41 : decode cX5_readHolding 41 = .ok (.iconst 0, 1) := by decide +kernel
theorem dX5_readHolding_42 : decode cX5_readHolding 42 = .ok (.bipush 47, 2) := by decide +kernel
theorem dX5_readHolding_44 : decode cX5_readHolding 44 = .ok (.invokevirtual 155, 3) := by decide +kernel
theorem dX5_readHolding_47 : decode cX5_readHolding 47 = .ok (.ifCond .eq 38, 3) := by decide +kernel
theorem dX5_readHolding_50 : decode cX5_readHolding 50 = .ok (.aload_n 0, 1) := by decide +kernel
theorem dX5_readHolding_51 : decode cX5_readHolding 51 = .ok (.iconst 3, 1) := by decide +kernel
theorem dX5_readHolding_52 : decode cX5_readHolding 52 = .ok (.aload_n 0, 1) := by decide +kernel
theorem dX5_readHolding_53 : decode cX5_readHolding 53 = .ok (.getfield 18, 3) := by decide +kernel
theorem dX5_readHolding_56 : decode cX5_readHolding 56 = .ok (.iconst 2, 1) := by decide +kernel
theorem dX5_readHolding_57 : decode cX5_readHolding 57 = .ok (.iaload, 1) := by decide +kernel
theorem dX5_readHolding_58 : decode cX5_readHolding 58 = .ok (.bipush 47, 2) := by decide +kernel
theorem dX5_readHolding_60 : decode cX5_readHolding 60 = .ok (.invokevirtual 155, 3) := by decide +kernel
theorem dX5_readHolding_63 : decode cX5_readHolding 63 = .ok (.ifCond .eq 22, 3) := by decide +kernel
theorem dX5_readHolding_66 : decode cX5_readHolding 66 = .ok (.aload_n 0, 1) := by decide +kernel
theorem dX5_readHolding_67 : decode cX5_readHolding 67 = .ok (.invokevirtual 146, 3) := by decide +kernel
theorem dX5_readHolding_70 : decode cX5_readHolding 70 = .ok (.ifCond .eq 15, 3) := by decide +kernel
theorem dX5_readHolding_73 : decode cX5_readHolding 73 = .ok (.aload_n 0, 1) := by decide +kernel
theorem dX5_readHolding_74 : decode cX5_readHolding 74 = .ok (.aload_n 1, 1) := by decide +kernel
theorem dX5_readHolding_75 : decode cX5_readHolding 75 = .ok (.invokevirtual 149, 3) := by decide +kernel
theorem dX5_readHolding_78 : decode cX5_readHolding 78 = .ok (.ifCond .eq 7, 3) := by decide +kernel
theorem dX5_readHolding_81 : decode cX5_readHolding 81 = .ok (.iconst 1, 1) := by decide +kernel
theorem dX5_readHolding_82 : decode cX5_readHolding 82 = .ok (.goto 4, 3) := by decide +kernel
theorem dX5_readHolding_85 : decode cX5_readHolding 85 = .ok (.iconst 0, 1) := by decide +kernel
theorem dX5_readHolding_86 : decode cX5_readHolding 86 = .ok (.ireturn, 1) := by decide +kernel
theorem dX5_readTask_0 : decode cX5_readTask 0 = .ok (.aload_n 0, 1) := by decide +kernel
theorem dX5_readTask_1 : decode cX5_readTask 1 = .ok (.aload_n 0, 1) := by decide +kernel
theorem dX5_readTask_2 : decode cX5_readTask 2 = .ok (.getfield 36, 3) := by decide +kernel
theorem dX5_readTask_5 : decode cX5_readTask 5 = .ok (.getfield 177, 3) := by decide +kernel
theorem dX5_readTask_8 : decode cX5_readTask 8 = .ok (.iconst 4, 1) := by decide +kernel
theorem dX5_readTask_9 : decode cX5_readTask 9 = .ok (.invokevirtual 139, 3) := by decide +kernel
theorem dX5_readTask_12 : decode cX5_readTask 12 = .ok (.ifCond .eq 80, 3) := by decide +kernel
theorem dX5_readTask_15 : decode cX5_readTask 15 = .ok (.aload_n 0, 1) := by decide +kernel
theorem dX5_readTask_16 : decode cX5_readTask 16 = .ok (.aload_n 0, 1) := by decide +kernel
theorem dX5_readTask_17 : decode cX5_readTask 17 = .ok (.getfield 36, 3) := by decide +kernel
theorem dX5_readTask_20 : decode cX5_readTask 20 = .ok (.getfield 152, 3) := by decide +kernel
theorem dX5_readTask_23 : decode cX5_readTask 23 = .ok (.iconst 0, 1) := by decide +kernel
theorem dX5_readTask_24 : decode cX5_readTask 24 = .ok (.invokevirtual 161, 3) := by decide +kernel
theorem dX5_readTask_27 : decode cX5_readTask 27 = .ok (.ifCond .eq 65, 3) := by decide +kernel
theorem dX5_readTask_30 : decode cX5_readTask 30 = .ok (.aload_n 0, 1) := by decide +kernel
theorem dX5_readTask_31 : decode cX5_readTask 31 = .ok (.aload_n 0, 1) := by decide +kernel
theorem dX5_readTask_32 : decode cX5_readTask 32 = .ok (.getfield 36, 3) := by decide +kernel
theorem dX5_readTask_35 : decode cX5_readTask 35 = .ok (.getfield 136, 3) := by decide +kernel
theorem dX5_readTask_38 : decode cX5_readTask 38 = .ok (.iconst 1, 1) := by decide +kernel
theorem dX5_readTask_39 : decode cX5_readTask 39 = .ok (.invokevirtual 161, 3) := by decide +kernel
theorem dX5_readTask_42 : decode cX5_readTask 42 = .ok (.ifCond .eq 50, 3) := by decide +kernel
theorem dX5_readTask_45 : decode cX5_readTask 45 = .ok (.aload_n 0, 1) := by decide +kernel
theorem dX5_readTask_46 : decode cX5_readTask 46 = .ok (.iconst 2, 1) := by decide +kernel
theorem dX5_readTask_47 : decode cX5_readTask 47 = .ok (.iconst 1, 1) := by decide +kernel
theorem dX5_readTask_48 : decode cX5_readTask 48 = .ok (.bipush 12, 2) := by decide +kernel
theorem dX5_readTask_50 : decode cX5_readTask 50 = .ok (.invokevirtual 155, 3) := by decide +kernel
theorem dX5_readTask_53 : decode cX5_readTask 53 = .ok (.ifCond .eq 39, 3) := by decide +kernel
theorem dX5_readTask_56 : decode cX5_readTask 56 = .ok (.aload_n 0, 1) := by decide +kernel
theorem dX5_readTask_57 : decode cX5_readTask 57 = .ok (.iconst 3, 1) := by decide +kernel
theorem dX5_readTask_58 : decode cX5_readTask 58 = .ok (.iconst 1, 1) := by decide +kernel
theorem dX5_readTask_59 : decode cX5_readTask 59 = .ok (.bipush 20, 2) := by decide +kernel
theorem dX5_readTask_61 : decode cX5_readTask 61 = .ok (.invokevirtual 155, 3) := by decide +kernel
theorem dX5_readTask_64 : decode cX5_readTask 64 = .ok (.ifCond .eq 28, 3) := by decide +kernel
theorem dX5_readTask_67 : decode cX5_readTask 67 = .ok (.aload_n 0, 1) := by decide +kernel
theorem dX5_readTask_68 : decode cX5_readTask 68 = .ok (.invokevirtual 146, 3) := by decide +kernel
theorem dX5_readTask_71 : decode cX5_readTask 71 = .ok (.ifCond .eq 21, 3) := by decide +kernel
theorem dX5_readTask_74 : decode cX5_readTask 74 = .ok (.aload_n 0, 1) := by decide +kernel
theorem dX5_readTask_75 : decode cX5_readTask 75 = .ok (.aload_n 0, 1) := by decide +kernel
theorem dX5_readTask_76 : decode cX5_readTask 76 = .ok (.getfield 36, 3) := by decide +kernel
theorem dX5_readTask_79 : decode cX5_readTask 79 = .ok (.getfield 177, 3) := by decide +kernel
theorem dX5_readTask_82 : decode cX5_readTask 82 = .ok (.invokevirtual 149, 3) := by decide +kernel
theorem dX5_readTask_85 : decode cX5_readTask 85 = .ok (.ifCond .eq 7, 3) := by decide +kernel
theorem dX5_readTask_88 : decode cX5_readTask 88 = .ok (.iconst 1, 1) := by decide +kernel
theorem dX5_readTask_89 : decode cX5_readTask 89 = .ok (.goto 4, 3) := by decide +kernel
theorem dX5_readTask_92 : decode cX5_readTask 92 = .ok (.iconst 0, 1) := by decide +kernel
theorem dX5_readTask_93 : decode cX5_readTask 93 = .ok (.ireturn, 1) := by decide +kernel
theorem dX5_readDog_0 : decode cX5_readDog 0 = .ok (.aload_n 0, 1) := by decide +kernel
theorem dX5_readDog_1 : decode cX5_readDog 1 = .ok (.aload_n 0, 1) := by decide +kernel
theorem dX5_readDog_2 : decode cX5_readDog 2 = .ok (.getfield 36, 3) := by decide +kernel
theorem dX5_readDog_5 : decode cX5_readDog 5 = .ok (.getfield 136, 3) := by decide +kernel
theorem dX5_readDog_8 : decode cX5_readDog 8 = .ok (.iconst 0, 1) := by decide +kernel
theorem dX5_readDog_9 : decode cX5_readDog 9 = .ok (.invokevirtual 161, 3) := by decide +kernel
theorem dX5_readDog_12 : decode cX5_readDog 12 = .ok (.ifCond .ne 5, 3) := by decide +kernel
theorem dX5_readDog_15 : decode cX5_readDog 15 = .ok (.iconst 0, 1) := by decide +kernel
theorem dX5_readDog_16 : decode cX5_readDog 16 = .ok (.ireturn, 1) := by decide +kernel
theorem dX5_readDog_17 : decode cX5_readDog 17 = .ok (.aload_n 0, 1) := by decide +kernel
theorem dX5_readDog_18 : decode cX5_readDog 18 = .ok (.getfield 36, 3) := by decide +kernel
theorem dX5_readDog_21 : decode cX5_readDog 21 = .ok (.getfield 136, 3) := by decide +kernel
theorem dX5_readDog_24 : decode cX5_readDog 24 = .ok (.aload_n 0, 1) := by decide +kernel
theorem dX5_readDog_25 : decode cX5_readDog 25 = .ok (.getfield 18, 3) := by decide +kernel
theorem dX5_readDog_28 : decode cX5_readDog 28 = .ok (.iconst 0, 1) := by decide +kernel
theorem dX5_readDog_29 : decode cX5_readDog 29 = .ok (.iaload, 1) := by decide +kernel
theorem dX5_readDog_30 : decode cX5_readDog 30 = .ok (.iconst 1, 1) := by decide +kernel
theorem dX5_readDog_31 : decode cX5_readDog 31 = .ok (.invokevirtual 168, 3) := by decide +kernel
theorem dX5_readDog_34 : decode cX5_readDog 34 = .ok (.ifCond .le 9, 3) := by decide +kernel
theorem dX5_readDog_37 : decode cX5_readDog 37 = .ok (.aload_n 0, 1) := by decide +kernel
theorem dX5_readDog_38 : decode cX5_readDog 38 = .ok (.iconst 3, 1) := by decide +kernel
theorem dX5_readDog_39 : decode cX5_readDog 39 = .ok (.invokevirtual 70, 3) := by decide +kernel
theorem dX5_readDog_42 : decode cX5_readDog 42 = .ok (.ireturn, 1) := by decide +kernel
theorem dX5_readDog_43 : decode cX5_readDog 43 = .ok (.aload_n 0, 1) := by decide +kernel
theorem dX5_readDog_44 : decode cX5_readDog 44 = .ok (.iconst 1, 1) := by decide +kernel
theorem dX5_readDog_45 : decode cX5_readDog 45 = .ok (.iconst 1, 1) := by decide +kernel
theorem dX5_readDog_46 : decode cX5_readDog 46 = .ok (.bipush 20, 2) := by decide +kernel
theorem dX5_readDog_48 : decode cX5_readDog 48 = .ok (.invokevirtual 155, 3) := by decide +kernel
theorem dX5_readDog_51 : decode cX5_readDog 51 = .ok (.ifCond .ne 5, 3) := by decide +kernel
theorem dX5_readDog_54 : decode cX5_readDog 54 = .ok (.iconst 0, 1) := by decide +kernel
theorem dX5_readDog_55 : decode cX5_readDog 55 = .ok (.ireturn, 1) := by decide +kernel
theorem dX5_readDog_56 : decode cX5_readDog 56 = .ok (.aload_n 0, 1) := by decide +kernel
theorem dX5_readDog_57 : decode cX5_readDog 57 = .ok (.getfield 36, 3) := by decide +kernel
theorem dX5_readDog_60 : decode cX5_readDog 60 = .ok (.getfield 136, 3) := by decide +kernel
theorem dX5_readDog_63 : decode cX5_readDog 63 = .ok (.aload_n 0, 1) := by decide +kernel
theorem dX5_readDog_64 : decode cX5_readDog 64 = .ok (.getfield 18, 3) := by decide +kernel
theorem dX5_readDog_67 : decode cX5_readDog 67 = .ok (.iconst 0, 1) := by decide +kernel
theorem dX5_readDog_68 : decode cX5_readDog 68 = .ok (.iaload, 1) := by decide +kernel
theorem dX5_readDog_69 : decode cX5_readDog 69 = .ok (.iconst 1, 1) := by decide +kernel
theorem dX5_readDog_70 : decode cX5_readDog 70 = .ok (.aload_n 0, 1) := by decide +kernel
theorem dX5_readDog_71 : decode cX5_readDog 71 = .ok (.getfield 18, 3) := by decide +kernel
theorem dX5_readDog_74 : decode cX5_readDog 74 = .ok (.iconst 1, 1) := by decide +kernel
theorem dX5_readDog_75 : decode cX5_readDog 75 = .ok (.iaload, 1) := by decide +kernel
theorem dX5_readDog_76 : decode cX5_readDog 76 = .ok (.invokevirtual 170, 3) := by decide +kernel
theorem dX5_readDog_79 : decode cX5_readDog 79 = .ok (.aload_n 0, 1) := by decide +kernel
theorem dX5_readDog_80 : decode cX5_readDog 80 = .ok (.invokevirtual 146, 3) := by decide +kernel
theorem dX5_readDog_83 : decode cX5_readDog 83 = .ok (.ireturn, 1) := by decide +kernel
theorem dX5_readOnce_0 : decode cX5_readOnce 0 = .ok (.aload_n 0, 1) := by decide +kernel
theorem dX5_readOnce_1 : decode cX5_readOnce 1 = .ok (.getfield 22, 3) := by decide +kernel
theorem dX5_readOnce_4 : decode cX5_readOnce 4 = .ok (.iload_n 1, 1) := by decide +kernel
theorem dX5_readOnce_5 : decode cX5_readOnce 5 = .ok (.iaload, 1) := by decide +kernel
theorem dX5_readOnce_6 : decode cX5_readOnce 6 = .ok (.iconst (-1), 1) := by decide +kernel
theorem dX5_readOnce_7 : decode cX5_readOnce 7 = .ok (.if_icmp .eq 9, 3) := by decide +kernel
theorem dX5_readOnce_10 : decode cX5_readOnce 10 = .ok (.aload_n 0, 1) := by decide +kernel
theorem dX5_readOnce_11 : decode cX5_readOnce 11 = .ok (.iconst 3, 1) := by decide +kernel
theorem dX5_readOnce_12 : decode cX5_readOnce 12 = .ok (.invokevirtual 70, 3) := by decide +kernel
theorem dX5_readOnce_15 : decode cX5_readOnce 15 = .ok (.ireturn, 1) := by decide +kernel
theorem dX5_readOnce_16 : decode cX5_readOnce 16 = .ok (.aload_n 0, 1) := by decide +kernel
theorem dX5_readOnce_17 : decode cX5_readOnce 17 = .ok (.iconst 0, 1) := by decide +kernel
theorem dX5_readOnce_18 : decode cX5_readOnce 18 = .ok (.iload_n 2, 1) := by decide +kernel
theorem dX5_readOnce_19 : decode cX5_readOnce 19 = .ok (.iload_n 3, 1) := by decide +kernel
theorem dX5_readOnce_20 : decode cX5_readOnce 20 = .ok (.invokevirtual 155, 3) := by decide +kernel
theorem dX5_readOnce_23 : decode cX5_readOnce 23 = .ok (.ifCond .ne 5, 3) := by decide +kernel
theorem dX5_readOnce_26 : decode cX5_readOnce 26 = .ok (.iconst 0, 1) := by decide +kernel
theorem dX5_readOnce_27 : decode cX5_readOnce 27 = .ok (.ireturn, 1) := by decide +kernel
theorem dX5_readOnce_28 : decode cX5_readOnce 28 = .ok (.aload_n 0, 1) := by decide +kernel
theorem dX5_readOnce_29 : decode cX5_readOnce 29 = .ok (.getfield 22, 3) := by decide +kernel
theorem dX5_readOnce_32 : decode cX5_readOnce 32 = .ok (.iload_n 1, 1) := by decide +kernel
theorem dX5_readOnce_33 : decode cX5_readOnce 33 = .ok (.aload_n 0, 1) := by decide +kernel
theorem dX5_readOnce_34 : decode cX5_readOnce 34 = .ok (.getfield 18, 3) := by decide +kernel
theorem dX5_readOnce_37 : decode cX5_readOnce 37 = .ok (.iconst 0, 1) := by decide +kernel
theorem dX5_readOnce_38 : decode cX5_readOnce 38 = .ok (.iaload, 1) := by decide +kernel
theorem dX5_readOnce_39 : decode cX5_readOnce 39 = .ok (.iastore, 1) := by decide +kernel
theorem dX5_readOnce_40 : decode cX5_readOnce 40 = .ok (.aload_n 0, 1) := by decide +kernel
theorem dX5_readOnce_41 : decode cX5_readOnce 41 = .ok (.invokevirtual 146, 3) := by decide +kernel
theorem dX5_readOnce_44 : decode cX5_readOnce 44 = .ok (.ireturn, 1) := by decide +kernel
theorem dX5_readLaw_0 : decode cX5_readLaw 0 = .ok (.aload_n 0, 1) := by decide +kernel
theorem dX5_readLaw_1 : decode cX5_readLaw 1 = .ok (.getfield 12, 3) := by decide +kernel
theorem dX5_readLaw_4 : decode cX5_readLaw 4 = .ok (.invokevirtual 51, 3) := by decide +kernel
theorem dX5_readLaw_7 : decode cX5_readLaw 7 = .ok (.aload_n 0, 1) := by decide +kernel
theorem dX5_readLaw_8 : decode cX5_readLaw 8 = .ok (.getfield 12, 3) := by decide +kernel
theorem dX5_readLaw_11 : decode cX5_readLaw 11 = .ok (.bipush 13, 2) := by decide +kernel
theorem dX5_readLaw_13 : decode cX5_readLaw 13 = .ok (.invokevirtual 180, 3) := by decide +kernel
theorem dX5_readLaw_16 : decode cX5_readLaw 16 = .ok (.ifCond .ne 21, 3) := by decide +kernel
theorem dX5_readLaw_19 : decode cX5_readLaw 19 = .ok (.aload_n 0, 1) := by decide +kernel
theorem dX5_readLaw_20 : decode cX5_readLaw 20 = .ok (.getfield 12, 3) := by decide +kernel
theorem dX5_readLaw_23 : decode cX5_readLaw 23 = .ok (.bipush 14, 2) := by decide +kernel
theorem dX5_readLaw_25 : decode cX5_readLaw 25 = .ok (.invokevirtual 180, 3) := by decide +kernel
theorem dX5_readLaw_28 : decode cX5_readLaw 28 = .ok (.ifCond .ne 9, 3) := by decide +kernel
theorem dX5_readLaw_31 : decode cX5_readLaw 31 = .ok (.aload_n 0, 1) := by decide +kernel
theorem dX5_readLaw_32 : decode cX5_readLaw 32 = .ok (.iconst 1, 1) := by decide +kernel
theorem dX5_readLaw_33 : decode cX5_readLaw 33 = .ok (.invokevirtual 70, 3) := by decide +kernel
theorem dX5_readLaw_36 : decode cX5_readLaw 36 = .ok (.ireturn, 1) := by decide +kernel
theorem dX5_readLaw_37 : decode cX5_readLaw 37 = .ok (.aload_n 0, 1) := by decide +kernel
theorem dX5_readLaw_38 : decode cX5_readLaw 38 = .ok (.getfield 12, 3) := by decide +kernel
theorem dX5_readLaw_41 : decode cX5_readLaw 41 = .ok (.bipush 13, 2) := by decide +kernel
theorem dX5_readLaw_43 : decode cX5_readLaw 43 = .ok (.invokevirtual 180, 3) := by decide +kernel
theorem dX5_readLaw_46 : decode cX5_readLaw 46 = .ok (.ifCond .eq 13, 3) := by decide +kernel
theorem dX5_readLaw_49 : decode cX5_readLaw 49 = .ok (.aload_n 0, 1) := by decide +kernel
theorem dX5_readLaw_50 : decode cX5_readLaw 50 = .ok (.getfield 36, 3) := by decide +kernel
theorem dX5_readLaw_53 : decode cX5_readLaw 53 = .ok (.getfield 183, 3) := by decide +kernel
theorem dX5_readLaw_56 : decode cX5_readLaw 56 = .ok (.goto 10, 3) := by decide +kernel
theorem dX5_readLaw_59 : decode cX5_readLaw 59 = .ok (.aload_n 0, 1) := by decide +kernel
theorem dX5_readLaw_60 : decode cX5_readLaw 60 = .ok (.getfield 36, 3) := by decide +kernel
theorem dX5_readLaw_63 : decode cX5_readLaw 63 = .ok (.getfield 187, 3) := by decide +kernel
theorem dX5_readLaw_66 : decode cX5_readLaw 66 = .ok (.astore_n 1, 1) := by decide +kernel
theorem dX5_readLaw_67 : decode cX5_readLaw 67 = .ok (.aload_n 1, 1) := by decide +kernel
theorem dX5_readLaw_68 : decode cX5_readLaw 68 = .ok (.getfield 190, 3) := by decide +kernel
theorem dX5_readLaw_71 : decode cX5_readLaw 71 = .ok (.ifCond .le 9, 3) := by decide +kernel
theorem dX5_readLaw_74 : decode cX5_readLaw 74 = .ok (.aload_n 0, 1) := by decide +kernel
theorem dX5_readLaw_75 : decode cX5_readLaw 75 = .ok (.iconst 3, 1) := by decide +kernel
theorem dX5_readLaw_76 : decode cX5_readLaw 76 = .ok (.invokevirtual 70, 3) := by decide +kernel
theorem dX5_readLaw_79 : decode cX5_readLaw 79 = .ok (.ireturn, 1) := by decide +kernel
theorem dX5_readLaw_80 : decode cX5_readLaw 80 = .ok (.aload_n 0, 1) := by decide +kernel
theorem dX5_readLaw_81 : decode cX5_readLaw 81 = .ok (.iconst 0, 1) := by decide +kernel
theorem dX5_readLaw_82 : decode cX5_readLaw 82 = .ok (.putfield 193, 3) := by decide +kernel
theorem dX5_readLaw_85 : decode cX5_readLaw 85 = .ok (.aload_n 0, 1) := by decide +kernel
theorem dX5_readLaw_86 : decode cX5_readLaw 86 = .ok (.iconst 0, 1) := by decide +kernel
theorem dX5_readLaw_87 : decode cX5_readLaw 87 = .ok (.putfield 196, 3) := by decide +kernel
theorem dX5_readLaw_90 : decode cX5_readLaw 90 = .ok (.iconst 1, 1) := by decide +kernel
theorem dX5_readLaw_91 : decode cX5_readLaw 91 = .ok (.istore_n 2, 1) := by decide +kernel
theorem dX5_readLaw_92 : decode cX5_readLaw 92 = .ok (.iconst 0, 1) := by decide +kernel
theorem dX5_readLaw_93 : decode cX5_readLaw 93 = .ok (.istore_n 3, 1) := by decide +kernel
theorem dX5_readLaw_94 : decode cX5_readLaw 94 = .ok (.iload_n 3, 1) := by decide +kernel
theorem dX5_readLaw_95 : decode cX5_readLaw 95 = .ok (.sipush 700, 3) := by decide +kernel
theorem dX5_readLaw_98 : decode cX5_readLaw 98 = .ok (.if_icmp .gt 73, 3) := by decide +kernel
theorem dX5_readLaw_101 : decode cX5_readLaw 101 = .ok (.aload_n 0, 1) := by decide +kernel
theorem dX5_readLaw_102 : decode cX5_readLaw 102 = .ok (.getfield 12, 3) := by decide +kernel
theorem dX5_readLaw_105 : decode cX5_readLaw 105 = .ok (.invokevirtual 51, 3) := by decide +kernel
theorem dX5_readLaw_108 : decode cX5_readLaw 108 = .ok (.iload_n 2, 1) := by decide +kernel
theorem dX5_readLaw_109 : decode cX5_readLaw 109 = .ok (.iconst 2, 1) := by decide +kernel
theorem dX5_readLaw_110 : decode cX5_readLaw 110 = .ok (.if_icmp .ne 30, 3) := by decide +kernel
theorem dX5_readLaw_113 : decode cX5_readLaw 113 = .ok (.aload_n 0, 1) := by decide +kernel
theorem dX5_readLaw_114 : decode cX5_readLaw 114 = .ok (.getfield 196, 3) := by decide +kernel
theorem dX5_readLaw_117 : decode cX5_readLaw 117 = .ok (.ifCond .ne 23, 3) := by decide +kernel
theorem dX5_readLaw_120 : decode cX5_readLaw 120 = .ok (.aload_n 0, 1) := by decide +kernel
theorem dX5_readLaw_121 : decode cX5_readLaw 121 = .ok (.getfield 12, 3) := by decide +kernel
theorem dX5_readLaw_124 : decode cX5_readLaw 124 = .ok (.bipush 59, 2) := by decide +kernel
theorem dX5_readLaw_126 : decode cX5_readLaw 126 = .ok (.invokevirtual 126, 3) := by decide +kernel
theorem dX5_readLaw_129 : decode cX5_readLaw 129 = .ok (.ifCond .eq 11, 3) := by decide +kernel
theorem dX5_readLaw_132 : decode cX5_readLaw 132 = .ok (.aload_n 0, 1) := by decide +kernel
theorem dX5_readLaw_133 : decode cX5_readLaw 133 = .ok (.aload_n 1, 1) := by decide +kernel
theorem dX5_readLaw_134 : decode cX5_readLaw 134 = .ok (.iconst 1, 1) := by decide +kernel
theorem dX5_readLaw_135 : decode cX5_readLaw 135 = .ok (.invokevirtual 199, 3) := by decide +kernel
theorem dX5_readLaw_138 : decode cX5_readLaw 138 = .ok (.iconst 1, 1) := by decide +kernel
theorem dX5_readLaw_139 : decode cX5_readLaw 139 = .ok (.ireturn, 1) := by decide +kernel
theorem dX5_readLaw_140 : decode cX5_readLaw 140 = .ok (.iload_n 2, 1) := by decide +kernel
theorem dX5_readLaw_141 : decode cX5_readLaw 141 = .ok (.iconst 1, 1) := by decide +kernel
theorem dX5_readLaw_142 : decode cX5_readLaw 142 = .ok (.if_icmp .ne 11, 3) := by decide +kernel
theorem dX5_readLaw_145 : decode cX5_readLaw 145 = .ok (.aload_n 0, 1) := by decide +kernel
theorem dX5_readLaw_146 : decode cX5_readLaw 146 = .ok (.aload_n 1, 1) := by decide +kernel
theorem dX5_readLaw_147 : decode cX5_readLaw 147 = .ok (.invokevirtual 203, 3) := by decide +kernel
theorem dX5_readLaw_150 : decode cX5_readLaw 150 = .ok (.goto 8, 3) := by decide +kernel
theorem dX5_readLaw_153 : decode cX5_readLaw 153 = .ok (.aload_n 0, 1) := by decide +kernel
theorem dX5_readLaw_154 : decode cX5_readLaw 154 = .ok (.aload_n 1, 1) := by decide +kernel
theorem dX5_readLaw_155 : decode cX5_readLaw 155 = .ok (.invokevirtual 207, 3) := by decide +kernel
theorem dX5_readLaw_158 : decode cX5_readLaw 158 = .ok (.istore_n 2, 1) := by decide +kernel
theorem dX5_readLaw_159 : decode cX5_readLaw 159 = .ok (.iload_n 2, 1) := by decide +kernel
theorem dX5_readLaw_160 : decode cX5_readLaw 160 = .ok (.ifCond .ne 5, 3) := by decide +kernel
theorem dX5_readLaw_163 : decode cX5_readLaw 163 = .ok (.iconst 0, 1) := by decide +kernel
theorem dX5_readLaw_164 : decode cX5_readLaw 164 = .ok (.ireturn, 1) := by decide +kernel
theorem dX5_readLaw_165 : decode cX5_readLaw 165 = .ok (.iinc 3 1, 3) := by decide +kernel
theorem dX5_readLaw_168 : decode cX5_readLaw 168 = .ok (.goto (-74), 3) := by decide +kernel
theorem dX5_readLaw_171 : decode cX5_readLaw 171 = .ok (.aload_n 0, 1) := by decide +kernel
theorem dX5_readLaw_172 : decode cX5_readLaw 172 = .ok (.iconst 1, 1) := by decide +kernel
theorem dX5_readLaw_173 : decode cX5_readLaw 173 = .ok (.invokevirtual 70, 3) := by decide +kernel
theorem dX5_readLaw_176 : decode cX5_readLaw 176 = .ok (.ireturn, 1) := by decide +kernel
theorem dX5_faulty_0 : decode cX5_faulty 0 = .ok (.aload_n 0, 1) := by decide +kernel
theorem dX5_faulty_1 : decode cX5_faulty 1 = .ok (.iload_n 1, 1) := by decide +kernel
theorem dX5_faulty_2 : decode cX5_faulty 2 = .ok (.invokevirtual 70, 3) := by decide +kernel
theorem dX5_faulty_5 : decode cX5_faulty 5 = .ok (.pop, 1) := by decide +kernel
theorem dX5_faulty_6 : decode cX5_faulty 6 = .ok (.iconst 0, 1) := by decide +kernel
theorem dX5_faulty_7 : decode cX5_faulty 7 = .ok (.ireturn, 1) := by decide +kernel
theorem dX5_readOperand_0 : decode cX5_readOperand 0 = .ok (.aload_n 0, 1) := by decide +kernel
theorem dX5_readOperand_1 : decode cX5_readOperand 1 = .ok (.getfield 12, 3) := by decide +kernel
theorem dX5_readOperand_4 : decode cX5_readOperand 4 = .ok (.bipush 40, 2) := by decide +kernel
theorem dX5_readOperand_6 : decode cX5_readOperand 6 = .ok (.invokevirtual 126, 3) := by decide +kernel
theorem dX5_readOperand_9 : decode cX5_readOperand 9 = .ok (.ifCond .eq 35, 3) := by decide +kernel
theorem dX5_readOperand_12 : decode cX5_readOperand 12 = .ok (.aload_n 0, 1) := by decide +kernel
theorem dX5_readOperand_13 : decode cX5_readOperand 13 = .ok (.getfield 196, 3) := by decide +kernel
theorem dX5_readOperand_16 : decode cX5_readOperand 16 = .ok (.bipush 8, 2) := by decide +kernel
theorem dX5_readOperand_18 : decode cX5_readOperand 18 = .ok (.if_icmp .lt 9, 3) := by decide +kernel
theorem dX5_readOperand_21 : decode cX5_readOperand 21 = .ok (.aload_n 0, 1) := by decide +kernel
theorem dX5_readOperand_22 : decode cX5_readOperand 22 = .ok (.iconst 2, 1) := by decide +kernel
theorem dX5_readOperand_23 : decode cX5_readOperand 23 = .ok (.invokevirtual 210, 3) := by decide +kernel
theorem dX5_readOperand_26 : decode cX5_readOperand 26 = .ok (.ireturn, 1) := by decide +kernel
theorem dX5_readOperand_27 : decode cX5_readOperand 27 = .ok (.aload_n 0, 1) := by decide +kernel
theorem dX5_readOperand_28 : decode cX5_readOperand 28 = .ok (.dup, 1) := by decide +kernel
theorem dX5_readOperand_29 : decode cX5_readOperand 29 = .ok (.getfield 196, 3) := by decide +kernel
theorem dX5_readOperand_32 : decode cX5_readOperand 32 = .ok (.iconst 1, 1) := by decide +kernel
theorem dX5_readOperand_33 : decode cX5_readOperand 33 = .ok (.iadd, 1) := by decide +kernel
theorem dX5_readOperand_34 : decode cX5_readOperand 34 = .ok (.putfield 196, 3) := by decide +kernel
theorem dX5_readOperand_37 : decode cX5_readOperand 37 = .ok (.aload_n 0, 1) := by decide +kernel
theorem dX5_readOperand_38 : decode cX5_readOperand 38 = .ok (.bipush 13, 2) := by decide +kernel
theorem dX5_readOperand_40 : decode cX5_readOperand 40 = .ok (.invokevirtual 214, 3) := by decide +kernel
theorem dX5_readOperand_43 : decode cX5_readOperand 43 = .ok (.ireturn, 1) := by decide +kernel
theorem dX5_readOperand_44 : decode cX5_readOperand 44 = .ok (.aload_n 0, 1) := by decide +kernel
theorem dX5_readOperand_45 : decode cX5_readOperand 45 = .ok (.getfield 12, 3) := by decide +kernel
theorem dX5_readOperand_48 : decode cX5_readOperand 48 = .ok (.bipush 17, 2) := by decide +kernel
theorem dX5_readOperand_50 : decode cX5_readOperand 50 = .ok (.invokevirtual 180, 3) := by decide +kernel
theorem dX5_readOperand_53 : decode cX5_readOperand 53 = .ok (.ifCond .eq 14, 3) := by decide +kernel
theorem dX5_readOperand_56 : decode cX5_readOperand 56 = .ok (.aload_n 0, 1) := by decide +kernel
theorem dX5_readOperand_57 : decode cX5_readOperand 57 = .ok (.invokevirtual 217, 3) := by decide +kernel
theorem dX5_readOperand_60 : decode cX5_readOperand 60 = .ok (.ifCond .eq 7, 3) := by decide +kernel
theorem dX5_readOperand_63 : decode cX5_readOperand 63 = .ok (.iconst 1, 1) := by decide +kernel
theorem dX5_readOperand_64 : decode cX5_readOperand 64 = .ok (.goto 4, 3) := by decide +kernel
theorem dX5_readOperand_67 : decode cX5_readOperand 67 = .ok (.iconst 0, 1) := by decide +kernel
theorem dX5_readOperand_68 : decode cX5_readOperand 68 = .ok (.istore_n 2, 1) := by decide +kernel
theorem dX5_readOperand_69 : decode cX5_readOperand 69 = .ok (.aload_n 0, 1) := by decide +kernel
theorem dX5_readOperand_70 : decode cX5_readOperand 70 = .ok (.getfield 12, 3) := by decide +kernel
theorem dX5_readOperand_73 : decode cX5_readOperand 73 = .ok (.getfield 54, 3) := by decide +kernel
theorem dX5_readOperand_76 : decode cX5_readOperand 76 = .ok (.iconst 4, 1) := by decide +kernel
theorem dX5_readOperand_77 : decode cX5_readOperand 77 = .ok (.if_icmp .ne 19, 3) := by decide +kernel
theorem dX5_readOperand_80 : decode cX5_readOperand 80 = .ok (.aload_n 0, 1) := by decide +kernel
theorem dX5_readOperand_81 : decode cX5_readOperand 81 = .ok (.getfield 12, 3) := by decide +kernel
theorem dX5_readOperand_84 : decode cX5_readOperand 84 = .ok (.getfield 77, 3) := by decide +kernel
theorem dX5_readOperand_87 : decode cX5_readOperand 87 = .ok (.bipush 18, 2) := by decide +kernel
theorem dX5_readOperand_89 : decode cX5_readOperand 89 = .ok (.if_icmp .lt 7, 3) := by decide +kernel
theorem dX5_readOperand_92 : decode cX5_readOperand 92 = .ok (.iconst 1, 1) := by decide +kernel
theorem dX5_readOperand_93 : decode cX5_readOperand 93 = .ok (.goto 4, 3) := by decide +kernel
theorem dX5_readOperand_96 : decode cX5_readOperand 96 = .ok (.iconst 0, 1) := by decide +kernel
theorem dX5_readOperand_97 : decode cX5_readOperand 97 = .ok (.istore_n 3, 1) := by decide +kernel
theorem dX5_readOperand_98 : decode cX5_readOperand 98 = .ok (.iload_n 2, 1) := by decide +kernel
theorem dX5_readOperand_99 : decode cX5_readOperand 99 = .ok (.ifCond .ne 24, 3) := by decide +kernel
theorem dX5_readOperand_102 : decode cX5_readOperand 102 = .ok (.iload_n 3, 1) := by decide +kernel
theorem dX5_readOperand_103 : decode cX5_readOperand 103 = .ok (.ifCond .ne 20, 3) := by decide +kernel
theorem dX5_readOperand_106 : decode cX5_readOperand 106 = .ok (.aload_n 0, 1) := by decide +kernel
theorem dX5_readOperand_107 : decode cX5_readOperand 107 = .ok (.getfield 12, 3) := by decide +kernel
theorem dX5_readOperand_110 : decode cX5_readOperand 110 = .ok (.getfield 54, 3) := by decide +kernel
theorem dX5_readOperand_113 : decode cX5_readOperand 113 = .ok (.iconst 2, 1) := by decide +kernel
theorem dX5_readOperand_114 : decode cX5_readOperand 114 = .ok (.if_icmp .eq 9, 3) := by decide +kernel
theorem dX5_readOperand_117 : decode cX5_readOperand 117 = .ok (.aload_n 0, 1) := by decide +kernel
theorem dX5_readOperand_118 : decode cX5_readOperand 118 = .ok (.iconst 1, 1) := by decide +kernel
theorem dX5_readOperand_119 : decode cX5_readOperand 119 = .ok (.invokevirtual 210, 3) := by decide +kernel
theorem dX5_readOperand_122 : decode cX5_readOperand 122 = .ok (.ireturn, 1) := by decide +kernel
theorem dX5_readOperand_123 : decode cX5_readOperand 123 = .ok (.aload_n 0, 1) := by decide +kernel
theorem dX5_readOperand_124 : decode cX5_readOperand 124 = .ok (.getfield 45, 3) := by decide +kernel
theorem dX5_readOperand_127 : decode cX5_readOperand 127 = .ok (.bipush 64, 2) := by decide +kernel
theorem dX5_readOperand_129 : decode cX5_readOperand 129 = .ok (.if_icmp .ge 24, 3) := by decide +kernel
theorem dX5_readOperand_132 : decode cX5_readOperand 132 = .ok (.iload_n 2, 1) := by decide +kernel
theorem dX5_readOperand_133 : decode cX5_readOperand 133 = .ok (.ifCond .ne 26, 3) := by decide +kernel
theorem dX5_readOperand_136 : decode cX5_readOperand 136 = .ok (.iload_n 3, 1) := by decide +kernel
theorem dX5_readOperand_137 : decode cX5_readOperand 137 = .ok (.ifCond .ne 22, 3) := by decide +kernel
theorem dX5_readOperand_140 : decode cX5_readOperand 140 = .ok (.aload_n 0, 1) := by decide +kernel
theorem dX5_readOperand_141 : decode cX5_readOperand 141 = .ok (.getfield 12, 3) := by decide +kernel
theorem dX5_readOperand_144 : decode cX5_readOperand 144 = .ok (.getfield 77, 3) := by decide +kernel
theorem dX5_readOperand_147 : decode cX5_readOperand 147 = .ok (.sipush 9999, 3) := by decide +kernel
theorem dX5_readOperand_150 : decode cX5_readOperand 150 = .ok (.if_icmp .le 9, 3) := by decide +kernel
theorem dX5_readOperand_153 : decode cX5_readOperand 153 = .ok (.aload_n 0, 1) := by decide +kernel
theorem dX5_readOperand_154 : decode cX5_readOperand 154 = .ok (.iconst 2, 1) := by decide +kernel
theorem dX5_readOperand_155 : decode cX5_readOperand 155 = .ok (.invokevirtual 210, 3) := by decide +kernel
theorem dX5_readOperand_158 : decode cX5_readOperand 158 = .ok (.ireturn, 1) := by decide +kernel
theorem dX5_readOperand_159 : decode cX5_readOperand 159 = .ok (.aload_n 0, 1) := by decide +kernel
theorem dX5_readOperand_160 : decode cX5_readOperand 160 = .ok (.dup, 1) := by decide +kernel
theorem dX5_readOperand_161 : decode cX5_readOperand 161 = .ok (.getfield 45, 3) := by decide +kernel
theorem dX5_readOperand_164 : decode cX5_readOperand 164 = .ok (.iconst 1, 1) := by decide +kernel
theorem dX5_readOperand_165 : decode cX5_readOperand 165 = .ok (.iadd, 1) := by decide +kernel
theorem dX5_readOperand_166 : decode cX5_readOperand 166 = .ok (.putfield 45, 3) := by decide +kernel
theorem dX5_readOperand_169 : decode cX5_readOperand 169 = .ok (.iload_n 2, 1) := by decide +kernel
theorem dX5_readOperand_170 : decode cX5_readOperand 170 = .ok (.ifCond .eq 9, 3) := by decide +kernel
theorem dX5_readOperand_173 : decode cX5_readOperand 173 = .ok (.aload_n 0, 1) := by decide +kernel
theorem dX5_readOperand_174 : decode cX5_readOperand 174 = .ok (.iconst 2, 1) := by decide +kernel
theorem dX5_readOperand_175 : decode cX5_readOperand 175 = .ok (.invokevirtual 214, 3) := by decide +kernel
theorem dX5_readOperand_178 : decode cX5_readOperand 178 = .ok (.ireturn, 1) := by decide +kernel
theorem dX5_readOperand_179 : decode cX5_readOperand 179 = .ok (.iload_n 3, 1) := by decide +kernel
theorem dX5_readOperand_180 : decode cX5_readOperand 180 = .ok (.ifCond .eq 22, 3) := by decide +kernel
theorem dX5_readOperand_183 : decode cX5_readOperand 183 = .ok (.aload_n 1, 1) := by decide +kernel
theorem dX5_readOperand_184 : decode cX5_readOperand 184 = .ok (.iconst (-1), 1) := by decide +kernel
theorem dX5_readOperand_185 : decode cX5_readOperand 185 = .ok (.aload_n 0, 1) := by decide +kernel
theorem dX5_readOperand_186 : decode cX5_readOperand 186 = .ok (.getfield 12, 3) := by decide +kernel
theorem dX5_readOperand_189 : decode cX5_readOperand 189 = .ok (.getfield 77, 3) := by decide +kernel
theorem dX5_readOperand_192 : decode cX5_readOperand 192 = .ok (.bipush 18, 2) := by decide +kernel
theorem dX5_readOperand_194 : decode cX5_readOperand 194 = .ok (.isub, 1) := by decide +kernel
theorem dX5_readOperand_195 : decode cX5_readOperand 195 = .ok (.isub, 1) := by decide +kernel
theorem dX5_readOperand_196 : decode cX5_readOperand 196 = .ok (.invokevirtual 220, 3) := by decide +kernel
theorem dX5_readOperand_199 : decode cX5_readOperand 199 = .ok (.goto 14, 3) := by decide +kernel
theorem dX5_readOperand_202 : decode cX5_readOperand 202 = .ok (.aload_n 1, 1) := by decide +kernel
theorem dX5_readOperand_203 : decode cX5_readOperand 203 = .ok (.aload_n 0, 1) := by decide +kernel
theorem dX5_readOperand_204 : decode cX5_readOperand 204 = .ok (.getfield 12, 3) := by decide +kernel
theorem dX5_readOperand_207 : decode cX5_readOperand 207 = .ok (.getfield 77, 3) := by decide +kernel
theorem dX5_readOperand_210 : decode cX5_readOperand 210 = .ok (.invokevirtual 220, 3) := by decide +kernel
theorem dX5_readOperand_213 : decode cX5_readOperand 213 = .ok (.iconst 2, 1) := by decide +kernel
theorem dX5_readOperand_214 : decode cX5_readOperand 214 = .ok (.ireturn, 1) := by decide +kernel
theorem dX5_notMayStand_0 : decode cX5_notMayStand 0 = .ok (.aload_n 0, 1) := by decide +kernel
theorem dX5_notMayStand_1 : decode cX5_notMayStand 1 = .ok (.invokevirtual 223, 3) := by decide +kernel
theorem dX5_notMayStand_4 : decode cX5_notMayStand 4 = .ok (.getstatic 227, 3) := by decide +kernel
theorem dX5_notMayStand_7 : decode cX5_notMayStand 7 = .ok (.iconst 2, 1) := by decide +kernel
theorem dX5_notMayStand_8 : decode cX5_notMayStand 8 = .ok (.iaload, 1) := by decide +kernel
theorem dX5_notMayStand_9 : decode cX5_notMayStand 9 = .ok (.if_icmp .gt 7, 3) := by decide +kernel
theorem dX5_notMayStand_12 : decode cX5_notMayStand 12 = .ok (.iconst 1, 1) := by decide +kernel
theorem dX5_notMayStand_13 : decode cX5_notMayStand 13 = .ok (.goto 4, 3) := by decide +kernel
theorem dX5_notMayStand_16 : decode cX5_notMayStand 16 = .ok (.iconst 0, 1) := by decide +kernel
theorem dX5_notMayStand_17 : decode cX5_notMayStand 17 = .ok (.ireturn, 1) := by decide +kernel
theorem dX5_lastRank_0 : decode cX5_lastRank 0 = .ok (.aload_n 0, 1) := by decide +kernel
theorem dX5_lastRank_1 : decode cX5_lastRank 1 = .ok (.getfield 193, 3) := by decide +kernel
theorem dX5_lastRank_4 : decode cX5_lastRank 4 = .ok (.ifCond .le 33, 3) := by decide +kernel
theorem dX5_lastRank_7 : decode cX5_lastRank 7 = .ok (.aload_n 0, 1) := by decide +kernel
theorem dX5_lastRank_8 : decode cX5_lastRank 8 = .ok (.getfield 193, 3) := by decide +kernel
theorem dX5_lastRank_11 : decode cX5_lastRank 11 = .ok (.aload_n 0, 1) := by decide +kernel
theorem dX5_lastRank_12 : decode cX5_lastRank 12 = .ok (.getfield 25, 3) := by decide +kernel
theorem dX5_lastRank_15 : decode cX5_lastRank 15 = .ok (.arraylength, 1) := by decide +kernel
theorem dX5_lastRank_16 : decode cX5_lastRank 16 = .ok (.if_icmp .gt 21, 3) := by decide +kernel
theorem dX5_lastRank_19 : decode cX5_lastRank 19 = .ok (.getstatic 227, 3) := by decide +kernel
theorem dX5_lastRank_22 : decode cX5_lastRank 22 = .ok (.aload_n 0, 1) := by decide +kernel
theorem dX5_lastRank_23 : decode cX5_lastRank 23 = .ok (.getfield 25, 3) := by decide +kernel
theorem dX5_lastRank_26 : decode cX5_lastRank 26 = .ok (.aload_n 0, 1) := by decide +kernel
theorem dX5_lastRank_27 : decode cX5_lastRank 27 = .ok (.getfield 193, 3) := by decide +kernel
theorem dX5_lastRank_30 : decode cX5_lastRank 30 = .ok (.iconst 1, 1) := by decide +kernel
theorem dX5_lastRank_31 : decode cX5_lastRank 31 = .ok (.isub, 1) := by decide +kernel
theorem dX5_lastRank_32 : decode cX5_lastRank 32 = .ok (.iaload, 1) := by decide +kernel
theorem dX5_lastRank_33 : decode cX5_lastRank 33 = .ok (.iaload, 1) := by decide +kernel
theorem dX5_lastRank_34 : decode cX5_lastRank 34 = .ok (.goto 4, 3) := by decide +kernel
theorem dX5_lastRank_37 : decode cX5_lastRank 37 = .ok (.iconst 0, 1) := by decide +kernel
theorem dX5_lastRank_38 : decode cX5_lastRank 38 = .ok (.ireturn, 1) := by decide +kernel
theorem dX5_hold_0 : decode cX5_hold 0 = .ok (.aload_n 0, 1) := by decide +kernel
theorem dX5_hold_1 : decode cX5_hold 1 = .ok (.getfield 193, 3) := by decide +kernel
theorem dX5_hold_4 : decode cX5_hold 4 = .ok (.aload_n 0, 1) := by decide +kernel
theorem dX5_hold_5 : decode cX5_hold 5 = .ok (.getfield 25, 3) := by decide +kernel
theorem dX5_hold_8 : decode cX5_hold 8 = .ok (.arraylength, 1) := by decide +kernel
theorem dX5_hold_9 : decode cX5_hold 9 = .ok (.if_icmp .ge 23, 3) := by decide +kernel
theorem dX5_hold_12 : decode cX5_hold 12 = .ok (.aload_n 0, 1) := by decide +kernel
theorem dX5_hold_13 : decode cX5_hold 13 = .ok (.getfield 25, 3) := by decide +kernel
theorem dX5_hold_16 : decode cX5_hold 16 = .ok (.aload_n 0, 1) := by decide +kernel
theorem dX5_hold_17 : decode cX5_hold 17 = .ok (.getfield 193, 3) := by decide +kernel
theorem dX5_hold_20 : decode cX5_hold 20 = .ok (.iload_n 1, 1) := by decide +kernel
theorem dX5_hold_21 : decode cX5_hold 21 = .ok (.iastore, 1) := by decide +kernel
theorem dX5_hold_22 : decode cX5_hold 22 = .ok (.aload_n 0, 1) := by decide +kernel
theorem dX5_hold_23 : decode cX5_hold 23 = .ok (.dup, 1) := by decide +kernel
theorem dX5_hold_24 : decode cX5_hold 24 = .ok (.getfield 193, 3) := by decide +kernel
theorem dX5_hold_27 : decode cX5_hold 27 = .ok (.iconst 1, 1) := by decide +kernel
theorem dX5_hold_28 : decode cX5_hold 28 = .ok (.iadd, 1) := by decide +kernel
theorem dX5_hold_29 : decode cX5_hold 29 = .ok (.putfield 193, 3) := by decide +kernel
theorem dX5_hold_32 : decode cX5_hold 32 = .ok (.iconst 1, 1) := by decide +kernel
theorem dX5_hold_33 : decode cX5_hold 33 = .ok (.ireturn, 1) := by decide +kernel
theorem dX5_release_0 : decode cX5_release 0 = .ok (.aload_n 0, 1) := by decide +kernel
theorem dX5_release_1 : decode cX5_release 1 = .ok (.getfield 193, 3) := by decide +kernel
theorem dX5_release_4 : decode cX5_release 4 = .ok (.ifCond .le 40, 3) := by decide +kernel
theorem dX5_release_7 : decode cX5_release 7 = .ok (.aload_n 0, 1) := by decide +kernel
theorem dX5_release_8 : decode cX5_release 8 = .ok (.invokevirtual 223, 3) := by decide +kernel
theorem dX5_release_11 : decode cX5_release 11 = .ok (.iload_n 2, 1) := by decide +kernel
theorem dX5_release_12 : decode cX5_release 12 = .ok (.if_icmp .lt 32, 3) := by decide +kernel
theorem dX5_release_15 : decode cX5_release 15 = .ok (.aload_n 0, 1) := by decide +kernel
theorem dX5_release_16 : decode cX5_release 16 = .ok (.dup, 1) := by decide +kernel
theorem dX5_release_17 : decode cX5_release 17 = .ok (.getfield 193, 3) := by decide +kernel
theorem dX5_release_20 : decode cX5_release 20 = .ok (.iconst 1, 1) := by decide +kernel
theorem dX5_release_21 : decode cX5_release 21 = .ok (.isub, 1) := by decide +kernel
theorem dX5_release_22 : decode cX5_release 22 = .ok (.putfield 193, 3) := by decide +kernel
theorem dX5_release_25 : decode cX5_release 25 = .ok (.aload_n 1, 1) := by decide +kernel
theorem dX5_release_26 : decode cX5_release 26 = .ok (.bipush (-10), 2) := by decide +kernel
theorem dX5_release_28 : decode cX5_release 28 = .ok (.aload_n 0, 1) := by decide +kernel
theorem dX5_release_29 : decode cX5_release 29 = .ok (.getfield 25, 3) := by decide +kernel
theorem dX5_release_32 : decode cX5_release 32 = .ok (.aload_n 0, 1) := by decide +kernel
theorem dX5_release_33 : decode cX5_release 33 = .ok (.getfield 193, 3) := by decide +kernel
theorem dX5_release_36 : decode cX5_release 36 = .ok (.iaload, 1) := by decide +kernel
theorem dX5_release_37 : decode cX5_release 37 = .ok (.isub, 1) := by decide +kernel
theorem dX5_release_38 : decode cX5_release 38 = .ok (.invokevirtual 220, 3) := by decide +kernel
theorem dX5_release_41 : decode cX5_release 41 = .ok (.goto (-41), 3) := by decide +kernel
theorem dX5_release_44 : decode cX5_release 44 = .ok (.return_, 1) := by decide +kernel
theorem dX5_readJoin_0 : decode cX5_readJoin 0 = .ok (.aload_n 0, 1) := by decide +kernel
theorem dX5_readJoin_1 : decode cX5_readJoin 1 = .ok (.getfield 12, 3) := by decide +kernel
theorem dX5_readJoin_4 : decode cX5_readJoin 4 = .ok (.bipush 41, 2) := by decide +kernel
theorem dX5_readJoin_6 : decode cX5_readJoin 6 = .ok (.invokevirtual 126, 3) := by decide +kernel
theorem dX5_readJoin_9 : decode cX5_readJoin 9 = .ok (.ifCond .eq 38, 3) := by decide +kernel
theorem dX5_readJoin_12 : decode cX5_readJoin 12 = .ok (.aload_n 0, 1) := by decide +kernel
theorem dX5_readJoin_13 : decode cX5_readJoin 13 = .ok (.getfield 196, 3) := by decide +kernel
theorem dX5_readJoin_16 : decode cX5_readJoin 16 = .ok (.ifCond .le 31, 3) := by decide +kernel
theorem dX5_readJoin_19 : decode cX5_readJoin 19 = .ok (.aload_n 0, 1) := by decide +kernel
theorem dX5_readJoin_20 : decode cX5_readJoin 20 = .ok (.aload_n 1, 1) := by decide +kernel
theorem dX5_readJoin_21 : decode cX5_readJoin 21 = .ok (.iconst 1, 1) := by decide +kernel
theorem dX5_readJoin_22 : decode cX5_readJoin 22 = .ok (.invokevirtual 199, 3) := by decide +kernel
theorem dX5_readJoin_25 : decode cX5_readJoin 25 = .ok (.aload_n 0, 1) := by decide +kernel
theorem dX5_readJoin_26 : decode cX5_readJoin 26 = .ok (.dup, 1) := by decide +kernel
theorem dX5_readJoin_27 : decode cX5_readJoin 27 = .ok (.getfield 193, 3) := by decide +kernel
theorem dX5_readJoin_30 : decode cX5_readJoin 30 = .ok (.iconst 1, 1) := by decide +kernel
theorem dX5_readJoin_31 : decode cX5_readJoin 31 = .ok (.isub, 1) := by decide +kernel
theorem dX5_readJoin_32 : decode cX5_readJoin 32 = .ok (.putfield 193, 3) := by decide +kernel
theorem dX5_readJoin_35 : decode cX5_readJoin 35 = .ok (.aload_n 0, 1) := by decide +kernel
theorem dX5_readJoin_36 : decode cX5_readJoin 36 = .ok (.dup, 1) := by decide +kernel
theorem dX5_readJoin_37 : decode cX5_readJoin 37 = .ok (.getfield 196, 3) := by decide +kernel
theorem dX5_readJoin_40 : decode cX5_readJoin 40 = .ok (.iconst 1, 1) := by decide +kernel
theorem dX5_readJoin_41 : decode cX5_readJoin 41 = .ok (.isub, 1) := by decide +kernel
theorem dX5_readJoin_42 : decode cX5_readJoin 42 = .ok (.putfield 196, 3) := by decide +kernel
theorem dX5_readJoin_45 : decode cX5_readJoin 45 = .ok (.iconst 2, 1) := by decide +kernel
theorem dX5_readJoin_46 : decode cX5_readJoin 46 = .ok (.ireturn, 1) := by decide +kernel
theorem dX5_readJoin_47 : decode cX5_readJoin 47 = .ok (.aload_n 0, 1) := by decide +kernel
theorem dX5_readJoin_48 : decode cX5_readJoin 48 = .ok (.invokevirtual 230, 3) := by decide +kernel
theorem dX5_readJoin_51 : decode cX5_readJoin 51 = .ok (.istore_n 2, 1) := by decide +kernel
theorem dX5_readJoin_52 : decode cX5_readJoin 52 = .ok (.iload_n 2, 1) := by decide +kernel
theorem dX5_readJoin_53 : decode cX5_readJoin 53 = .ok (.iconst (-1), 1) := by decide +kernel
theorem dX5_readJoin_54 : decode cX5_readJoin 54 = .ok (.if_icmp .ne 9, 3) := by decide +kernel
theorem dX5_readJoin_57 : decode cX5_readJoin 57 = .ok (.aload_n 0, 1) := by decide +kernel
theorem dX5_readJoin_58 : decode cX5_readJoin 58 = .ok (.iconst 1, 1) := by decide +kernel
theorem dX5_readJoin_59 : decode cX5_readJoin 59 = .ok (.invokevirtual 210, 3) := by decide +kernel
theorem dX5_readJoin_62 : decode cX5_readJoin 62 = .ok (.ireturn, 1) := by decide +kernel
theorem dX5_readJoin_63 : decode cX5_readJoin 63 = .ok (.getstatic 227, 3) := by decide +kernel
theorem dX5_readJoin_66 : decode cX5_readJoin 66 = .ok (.iload_n 2, 1) := by decide +kernel
theorem dX5_readJoin_67 : decode cX5_readJoin 67 = .ok (.iaload, 1) := by decide +kernel
theorem dX5_readJoin_68 : decode cX5_readJoin 68 = .ok (.istore_n 3, 1) := by decide +kernel
theorem dX5_readJoin_69 : decode cX5_readJoin 69 = .ok (.aload_n 0, 1) := by decide +kernel
theorem dX5_readJoin_70 : decode cX5_readJoin 70 = .ok (.aload_n 1, 1) := by decide +kernel
theorem dX5_readJoin_71 : decode cX5_readJoin 71 = .ok (.iload_n 3, 1) := by decide +kernel
theorem dX5_readJoin_72 : decode cX5_readJoin 72 = .ok (.iconst 4, 1) := by decide +kernel
theorem dX5_readJoin_73 : decode cX5_readJoin 73 = .ok (.if_icmp .ne 9, 3) := by decide +kernel
theorem dX5_readJoin_76 : decode cX5_readJoin 76 = .ok (.iload_n 3, 1) := by decide +kernel
theorem dX5_readJoin_77 : decode cX5_readJoin 77 = .ok (.iconst 1, 1) := by decide +kernel
theorem dX5_readJoin_78 : decode cX5_readJoin 78 = .ok (.iadd, 1) := by decide +kernel
theorem dX5_readJoin_79 : decode cX5_readJoin 79 = .ok (.goto 4, 3) := by decide +kernel
theorem dX5_readJoin_82 : decode cX5_readJoin 82 = .ok (.iload_n 3, 1) := by decide +kernel
theorem dX5_readJoin_83 : decode cX5_readJoin 83 = .ok (.invokevirtual 199, 3) := by decide +kernel
theorem dX5_readJoin_86 : decode cX5_readJoin 86 = .ok (.iload_n 3, 1) := by decide +kernel
theorem dX5_readJoin_87 : decode cX5_readJoin 87 = .ok (.iconst 4, 1) := by decide +kernel
theorem dX5_readJoin_88 : decode cX5_readJoin 88 = .ok (.if_icmp .ne 17, 3) := by decide +kernel
theorem dX5_readJoin_91 : decode cX5_readJoin 91 = .ok (.aload_n 0, 1) := by decide +kernel
theorem dX5_readJoin_92 : decode cX5_readJoin 92 = .ok (.invokevirtual 223, 3) := by decide +kernel
theorem dX5_readJoin_95 : decode cX5_readJoin 95 = .ok (.iconst 4, 1) := by decide +kernel
theorem dX5_readJoin_96 : decode cX5_readJoin 96 = .ok (.if_icmp .ne 9, 3) := by decide +kernel
theorem dX5_readJoin_99 : decode cX5_readJoin 99 = .ok (.aload_n 0, 1) := by decide +kernel
theorem dX5_readJoin_100 : decode cX5_readJoin 100 = .ok (.iconst 1, 1) := by decide +kernel
theorem dX5_readJoin_101 : decode cX5_readJoin 101 = .ok (.invokevirtual 210, 3) := by decide +kernel
theorem dX5_readJoin_104 : decode cX5_readJoin 104 = .ok (.ireturn, 1) := by decide +kernel
theorem dX5_readJoin_105 : decode cX5_readJoin 105 = .ok (.aload_n 0, 1) := by decide +kernel
theorem dX5_readJoin_106 : decode cX5_readJoin 106 = .ok (.getfield 45, 3) := by decide +kernel
