theorem dL_draw_0 : decode cL_draw 0 = .ok (.iload_n 1, 1) := by decide +kernel
theorem dL_draw_1 : decode cL_draw 1 = .ok (.aload_n 0, 1) := by decide +kernel
theorem dL_draw_2 : decode cL_draw 2 = .ok (.arraylength, 1) := by decide +kernel
theorem dL_draw_3 : decode cL_draw 3 = .ok (.if_icmp .ge 9, 3) := by decide +kernel
theorem dL_draw_6 : decode cL_draw 6 = .ok (.aload_n 0, 1) := by decide +kernel
theorem dL_draw_7 : decode cL_draw 7 = .ok (.iload_n 1, 1) := by decide +kernel
theorem dL_draw_8 : decode cL_draw 8 = .ok (.iaload, 1) := by decide +kernel
theorem dL_draw_9 : decode cL_draw 9 = .ok (.goto 4, 3) := by decide +kernel
theorem dL_draw_12 : decode cL_draw 12 = .ok (.iconst 0, 1) := by decide +kernel
theorem dL_draw_13 : decode cL_draw 13 = .ok (.ldc 7, 2) := by decide +kernel
theorem dL_draw_15 : decode cL_draw 15 = .ok (.iand, 1) := by decide +kernel
theorem dL_draw_16 : decode cL_draw 16 = .ok (.iload_n 2, 1) := by decide +kernel
theorem dL_draw_17 : decode cL_draw 17 = .ok (.irem, 1) := by decide +kernel
theorem dL_draw_18 : decode cL_draw 18 = .ok (.ireturn, 1) := by decide +kernel
theorem dL_four_0 : decode cL_four 0 = .ok (.iconst 0, 1) := by decide +kernel
theorem dL_four_1 : decode cL_four 1 = .ok (.istore_n 2, 1) := by decide +kernel
theorem dL_four_2 : decode cL_four 2 = .ok (.iconst 0, 1) := by decide +kernel
theorem dL_four_3 : decode cL_four 3 = .ok (.istore_n 3, 1) := by decide +kernel
theorem dL_four_4 : decode cL_four 4 = .ok (.iload_n 3, 1) := by decide +kernel
theorem dL_four_5 : decode cL_four 5 = .ok (.iconst 4, 1) := by decide +kernel
theorem dL_four_6 : decode cL_four 6 = .ok (.if_icmp .ge 36, 3) := by decide +kernel
theorem dL_four_9 : decode cL_four 9 = .ok (.iload_n 2, 1) := by decide +kernel
theorem dL_four_10 : decode cL_four 10 = .ok (.bipush 8, 2) := by decide +kernel
theorem dL_four_12 : decode cL_four 12 = .ok (.ishl, 1) := by decide +kernel
theorem dL_four_13 : decode cL_four 13 = .ok (.iload_n 1, 1) := by decide +kernel
theorem dL_four_14 : decode cL_four 14 = .ok (.iload_n 3, 1) := by decide +kernel
theorem dL_four_15 : decode cL_four 15 = .ok (.iadd, 1) := by decide +kernel
theorem dL_four_16 : decode cL_four 16 = .ok (.aload_n 0, 1) := by decide +kernel
theorem dL_four_17 : decode cL_four 17 = .ok (.invokevirtual 8, 3) := by decide +kernel
theorem dL_four_20 : decode cL_four 20 = .ok (.if_icmp .ge 13, 3) := by decide +kernel
theorem dL_four_23 : decode cL_four 23 = .ok (.aload_n 0, 1) := by decide +kernel
theorem dL_four_24 : decode cL_four 24 = .ok (.iload_n 1, 1) := by decide +kernel
theorem dL_four_25 : decode cL_four 25 = .ok (.iload_n 3, 1) := by decide +kernel
theorem dL_four_26 : decode cL_four 26 = .ok (.iadd, 1) := by decide +kernel
theorem dL_four_27 : decode cL_four 27 = .ok (.invokevirtual 14, 3) := by decide +kernel
theorem dL_four_30 : decode cL_four 30 = .ok (.goto 4, 3) := by decide +kernel
theorem dL_four_33 : decode cL_four 33 = .ok (.iconst 0, 1) := by decide +kernel
theorem dL_four_34 : decode cL_four 34 = .ok (.ior, 1) := by decide +kernel
theorem dL_four_35 : decode cL_four 35 = .ok (.istore_n 2, 1) := by decide +kernel
theorem dL_four_36 : decode cL_four 36 = .ok (.iinc 3 1, 3) := by decide +kernel
theorem dL_four_39 : decode cL_four 39 = .ok (.goto (-35), 3) := by decide +kernel
theorem dL_four_42 : decode cL_four 42 = .ok (.iload_n 2, 1) := by decide +kernel
theorem dL_four_43 : decode cL_four 43 = .ok (.ireturn, 1) := by decide +kernel
theorem dL_feed_0 : decode cL_feed 0 = .ok (.iconst 0, 1) := by decide +kernel
theorem dL_feed_1 : decode cL_feed 1 = .ok (.istore_n 2, 1) := by decide +kernel
theorem dL_feed_2 : decode cL_feed 2 = .ok (.iconst 0, 1) := by decide +kernel
theorem dL_feed_3 : decode cL_feed 3 = .ok (.istore_n 3, 1) := by decide +kernel
theorem dL_feed_4 : decode cL_feed 4 = .ok (.iload_n 3, 1) := by decide +kernel
theorem dL_feed_5 : decode cL_feed 5 = .ok (.aload_n 1, 1) := by decide +kernel
theorem dL_feed_6 : decode cL_feed 6 = .ok (.invokevirtual 8, 3) := by decide +kernel
theorem dL_feed_9 : decode cL_feed 9 = .ok (.if_icmp .lt 7, 3) := by decide +kernel
theorem dL_feed_12 : decode cL_feed 12 = .ok (.iload_n 3, 1) := by decide +kernel
theorem dL_feed_13 : decode cL_feed 13 = .ok (.ifCond .ne 50, 3) := by decide +kernel
theorem dL_feed_16 : decode cL_feed 16 = .ok (.aload_n 0, 1) := by decide +kernel
theorem dL_feed_17 : decode cL_feed 17 = .ok (.aload_n 1, 1) := by decide +kernel
theorem dL_feed_18 : decode cL_feed 18 = .ok (.iload_n 3, 1) := by decide +kernel
theorem dL_feed_19 : decode cL_feed 19 = .ok (.invokestatic 18, 3) := by decide +kernel
theorem dL_feed_22 : decode cL_feed 22 = .ok (.aload_n 1, 1) := by decide +kernel
theorem dL_feed_23 : decode cL_feed 23 = .ok (.iload_n 3, 1) := by decide +kernel
theorem dL_feed_24 : decode cL_feed 24 = .ok (.iconst 4, 1) := by decide +kernel
theorem dL_feed_25 : decode cL_feed 25 = .ok (.iadd, 1) := by decide +kernel
theorem dL_feed_26 : decode cL_feed 26 = .ok (.invokestatic 18, 3) := by decide +kernel
theorem dL_feed_29 : decode cL_feed 29 = .ok (.aload_n 1, 1) := by decide +kernel
theorem dL_feed_30 : decode cL_feed 30 = .ok (.iload_n 3, 1) := by decide +kernel
theorem dL_feed_31 : decode cL_feed 31 = .ok (.bipush 8, 2) := by decide +kernel
theorem dL_feed_33 : decode cL_feed 33 = .ok (.iadd, 1) := by decide +kernel
theorem dL_feed_34 : decode cL_feed 34 = .ok (.invokestatic 18, 3) := by decide +kernel
theorem dL_feed_37 : decode cL_feed 37 = .ok (.aload_n 1, 1) := by decide +kernel
theorem dL_feed_38 : decode cL_feed 38 = .ok (.iload_n 3, 1) := by decide +kernel
theorem dL_feed_39 : decode cL_feed 39 = .ok (.bipush 12, 2) := by decide +kernel
theorem dL_feed_41 : decode cL_feed 41 = .ok (.iadd, 1) := by decide +kernel
theorem dL_feed_42 : decode cL_feed 42 = .ok (.invokestatic 18, 3) := by decide +kernel
theorem dL_feed_45 : decode cL_feed 45 = .ok (.aload_n 1, 1) := by decide +kernel
theorem dL_feed_46 : decode cL_feed 46 = .ok (.iload_n 3, 1) := by decide +kernel
theorem dL_feed_47 : decode cL_feed 47 = .ok (.bipush 16, 2) := by decide +kernel
theorem dL_feed_49 : decode cL_feed 49 = .ok (.iadd, 1) := by decide +kernel
theorem dL_feed_50 : decode cL_feed 50 = .ok (.invokestatic 18, 3) := by decide +kernel
theorem dL_feed_53 : decode cL_feed 53 = .ok (.invokevirtual 24, 3) := by decide +kernel
theorem dL_feed_56 : decode cL_feed 56 = .ok (.istore_n 2, 1) := by decide +kernel
theorem dL_feed_57 : decode cL_feed 57 = .ok (.iinc 3 20, 3) := by decide +kernel
theorem dL_feed_60 : decode cL_feed 60 = .ok (.goto (-56), 3) := by decide +kernel
theorem dL_feed_63 : decode cL_feed 63 = .ok (.aload_n 0, 1) := by decide +kernel
theorem dL_feed_64 : decode cL_feed 64 = .ok (.iload_n 2, 1) := by decide +kernel
theorem dL_feed_65 : decode cL_feed 65 = .ok (.aload_n 1, 1) := by decide +kernel
theorem dL_feed_66 : decode cL_feed 66 = .ok (.invokevirtual 8, 3) := by decide +kernel
theorem dL_feed_69 : decode cL_feed 69 = .ok (.invokestatic 30, 3) := by decide +kernel
theorem dL_feed_72 : decode cL_feed 72 = .ok (.invokevirtual 36, 3) := by decide +kernel
theorem dL_feed_75 : decode cL_feed 75 = .ok (.return_, 1) := by decide +kernel
theorem dL_load_0 : decode cL_load 0 = .ok (.aload_n 1, 1) := by decide +kernel
theorem dL_load_1 : decode cL_load 1 = .ok (.iconst 0, 1) := by decide +kernel
theorem dL_load_2 : decode cL_load 2 = .ok (.bipush 8, 2) := by decide +kernel
theorem dL_load_4 : decode cL_load 4 = .ok (.invokestatic 40, 3) := by decide +kernel
theorem dL_load_7 : decode cL_load 7 = .ok (.istore_n 2, 1) := by decide +kernel
theorem dL_load_8 : decode cL_load 8 = .ok (.aload_n 1, 1) := by decide +kernel
theorem dL_load_9 : decode cL_load 9 = .ok (.iconst 1, 1) := by decide +kernel
theorem dL_load_10 : decode cL_load 10 = .ok (.iconst 2, 1) := by decide +kernel
theorem dL_load_11 : decode cL_load 11 = .ok (.invokestatic 40, 3) := by decide +kernel
theorem dL_load_14 : decode cL_load 14 = .ok (.ifCond .ne 8, 3) := by decide +kernel
theorem dL_load_17 : decode cL_load 17 = .ok (.bipush 100, 2) := by decide +kernel
theorem dL_load_19 : decode cL_load 19 = .ok (.goto 5, 3) := by decide +kernel
theorem dL_load_22 : decode cL_load 22 = .ok (.bipush 8, 2) := by decide +kernel
theorem dL_load_24 : decode cL_load 24 = .ok (.istore_n 3, 1) := by decide +kernel
theorem dL_load_25 : decode cL_load 25 = .ok (.new 44, 3) := by decide +kernel
theorem dL_load_28 : decode cL_load 28 = .ok (.dup, 1) := by decide +kernel
theorem dL_load_29 : decode cL_load 29 = .ok (.ldc 46, 2) := by decide +kernel
theorem dL_load_31 : decode cL_load 31 = .ok (.invokespecial 48, 3) := by decide +kernel
theorem dL_load_34 : decode cL_load 34 = .ok (.aload_n 1, 1) := by decide +kernel
theorem dL_load_35 : decode cL_load 35 = .ok (.iconst 2, 1) := by decide +kernel
theorem dL_load_36 : decode cL_load 36 = .ok (.iload_n 2, 1) := by decide +kernel
theorem dL_load_37 : decode cL_load 37 = .ok (.iload_n 3, 1) := by decide +kernel
theorem dL_load_38 : decode cL_load 38 = .ok (.imul, 1) := by decide +kernel
theorem dL_load_39 : decode cL_load 39 = .ok (.bipush 20, 2) := by decide +kernel
theorem dL_load_41 : decode cL_load 41 = .ok (.iadd, 1) := by decide +kernel
theorem dL_load_42 : decode cL_load 42 = .ok (.invokestatic 40, 3) := by decide +kernel
theorem dL_load_45 : decode cL_load 45 = .ok (.invokevirtual 51, 3) := by decide +kernel
theorem dL_load_48 : decode cL_load 48 = .ok (.ldc 54, 2) := by decide +kernel
theorem dL_load_50 : decode cL_load 50 = .ok (.invokevirtual 56, 3) := by decide +kernel
theorem dL_load_53 : decode cL_load 53 = .ok (.aload_n 1, 1) := by decide +kernel
theorem dL_load_54 : decode cL_load 54 = .ok (.iconst 3, 1) := by decide +kernel
theorem dL_load_55 : decode cL_load 55 = .ok (.iconst 2, 1) := by decide +kernel
theorem dL_load_56 : decode cL_load 56 = .ok (.invokestatic 40, 3) := by decide +kernel
theorem dL_load_59 : decode cL_load 59 = .ok (.ifCond .ne 8, 3) := by decide +kernel
theorem dL_load_62 : decode cL_load 62 = .ok (.bipush 12, 2) := by decide +kernel
theorem dL_load_64 : decode cL_load 64 = .ok (.goto 10, 3) := by decide +kernel
theorem dL_load_67 : decode cL_load 67 = .ok (.aload_n 1, 1) := by decide +kernel
theorem dL_load_68 : decode cL_load 68 = .ok (.iconst 4, 1) := by decide +kernel
theorem dL_load_69 : decode cL_load 69 = .ok (.bipush 8, 2) := by decide +kernel
theorem dL_load_71 : decode cL_load 71 = .ok (.invokestatic 40, 3) := by decide +kernel
theorem dL_load_74 : decode cL_load 74 = .ok (.invokevirtual 51, 3) := by decide +kernel
theorem dL_load_77 : decode cL_load 77 = .ok (.ldc 59, 2) := by decide +kernel
theorem dL_load_79 : decode cL_load 79 = .ok (.invokevirtual 56, 3) := by decide +kernel
theorem dL_load_82 : decode cL_load 82 = .ok (.astore 4, 2) := by decide +kernel
theorem dL_load_84 : decode cL_load 84 = .ok (.iconst 0, 1) := by decide +kernel
theorem dL_load_85 : decode cL_load 85 = .ok (.istore 5, 2) := by decide +kernel
theorem dL_load_87 : decode cL_load 87 = .ok (.iload 5, 2) := by decide +kernel
theorem dL_load_89 : decode cL_load 89 = .ok (.iload_n 2, 1) := by decide +kernel
theorem dL_load_90 : decode cL_load 90 = .ok (.if_icmp .ge 77, 3) := by decide +kernel
theorem dL_load_93 : decode cL_load 93 = .ok (.aload 4, 2) := by decide +kernel
theorem dL_load_95 : decode cL_load 95 = .ok (.ldc 61, 2) := by decide +kernel
theorem dL_load_97 : decode cL_load 97 = .ok (.invokevirtual 56, 3) := by decide +kernel
theorem dL_load_100 : decode cL_load 100 = .ok (.aload_n 1, 1) := by decide +kernel
theorem dL_load_101 : decode cL_load 101 = .ok (.bipush 10, 2) := by decide +kernel
theorem dL_load_103 : decode cL_load 103 = .ok (.iconst 3, 1) := by decide +kernel
theorem dL_load_104 : decode cL_load 104 = .ok (.iload 5, 2) := by decide +kernel
theorem dL_load_106 : decode cL_load 106 = .ok (.imul, 1) := by decide +kernel
theorem dL_load_107 : decode cL_load 107 = .ok (.iadd, 1) := by decide +kernel
theorem dL_load_108 : decode cL_load 108 = .ok (.iload_n 3, 1) := by decide +kernel
theorem dL_load_109 : decode cL_load 109 = .ok (.invokestatic 40, 3) := by decide +kernel
theorem dL_load_112 : decode cL_load 112 = .ok (.invokevirtual 51, 3) := by decide +kernel
theorem dL_load_115 : decode cL_load 115 = .ok (.ldc 63, 2) := by decide +kernel
theorem dL_load_117 : decode cL_load 117 = .ok (.invokevirtual 56, 3) := by decide +kernel
theorem dL_load_120 : decode cL_load 120 = .ok (.aload_n 1, 1) := by decide +kernel
theorem dL_load_121 : decode cL_load 121 = .ok (.bipush 11, 2) := by decide +kernel
theorem dL_load_123 : decode cL_load 123 = .ok (.iconst 3, 1) := by decide +kernel
theorem dL_load_124 : decode cL_load 124 = .ok (.iload 5, 2) := by decide +kernel
theorem dL_load_126 : decode cL_load 126 = .ok (.imul, 1) := by decide +kernel
theorem dL_load_127 : decode cL_load 127 = .ok (.iadd, 1) := by decide +kernel
theorem dL_load_128 : decode cL_load 128 = .ok (.iload_n 3, 1) := by decide +kernel
theorem dL_load_129 : decode cL_load 129 = .ok (.invokestatic 40, 3) := by decide +kernel
theorem dL_load_132 : decode cL_load 132 = .ok (.invokevirtual 51, 3) := by decide +kernel
theorem dL_load_135 : decode cL_load 135 = .ok (.ldc 65, 2) := by decide +kernel
theorem dL_load_137 : decode cL_load 137 = .ok (.invokevirtual 56, 3) := by decide +kernel
theorem dL_load_140 : decode cL_load 140 = .ok (.aload_n 1, 1) := by decide +kernel
theorem dL_load_141 : decode cL_load 141 = .ok (.bipush 12, 2) := by decide +kernel
theorem dL_load_143 : decode cL_load 143 = .ok (.iconst 3, 1) := by decide +kernel
theorem dL_load_144 : decode cL_load 144 = .ok (.iload 5, 2) := by decide +kernel
theorem dL_load_146 : decode cL_load 146 = .ok (.imul, 1) := by decide +kernel
theorem dL_load_147 : decode cL_load 147 = .ok (.iadd, 1) := by decide +kernel
theorem dL_load_148 : decode cL_load 148 = .ok (.iload_n 3, 1) := by decide +kernel
theorem dL_load_149 : decode cL_load 149 = .ok (.invokestatic 40, 3) := by decide +kernel
theorem dL_load_152 : decode cL_load 152 = .ok (.invokevirtual 51, 3) := by decide +kernel
theorem dL_load_155 : decode cL_load 155 = .ok (.ldc 59, 2) := by decide +kernel
theorem dL_load_157 : decode cL_load 157 = .ok (.invokevirtual 56, 3) := by decide +kernel
theorem dL_load_160 : decode cL_load 160 = .ok (.pop, 1) := by decide +kernel
theorem dL_load_161 : decode cL_load 161 = .ok (.iinc 5 1, 3) := by decide +kernel
theorem dL_load_164 : decode cL_load 164 = .ok (.goto (-77), 3) := by decide +kernel
theorem dL_load_167 : decode cL_load 167 = .ok (.bipush 8, 2) := by decide +kernel
theorem dL_load_169 : decode cL_load 169 = .ok (.newarray .int, 2) := by decide +kernel
theorem dL_load_171 : decode cL_load 171 = .ok (.astore 5, 2) := by decide +kernel
theorem dL_load_173 : decode cL_load 173 = .ok (.bipush 8, 2) := by decide +kernel
theorem dL_load_175 : decode cL_load 175 = .ok (.newarray .int, 2) := by decide +kernel
theorem dL_load_177 : decode cL_load 177 = .ok (.astore 6, 2) := by decide +kernel
theorem dL_load_179 : decode cL_load 179 = .ok (.iconst 0, 1) := by decide +kernel
theorem dL_load_180 : decode cL_load 180 = .ok (.istore 7, 2) := by decide +kernel
theorem dL_load_182 : decode cL_load 182 = .ok (.iconst 0, 1) := by decide +kernel
theorem dL_load_183 : decode cL_load 183 = .ok (.istore 8, 2) := by decide +kernel
theorem dL_load_185 : decode cL_load 185 = .ok (.iconst 0, 1) := by decide +kernel
theorem dL_load_186 : decode cL_load 186 = .ok (.istore 9, 2) := by decide +kernel
theorem dL_load_188 : decode cL_load 188 = .ok (.iload_n 2, 1) := by decide +kernel
theorem dL_load_189 : decode cL_load 189 = .ok (.iconst 1, 1) := by decide +kernel
theorem dL_load_190 : decode cL_load 190 = .ok (.if_icmp .le 196, 3) := by decide +kernel
theorem dL_load_193 : decode cL_load 193 = .ok (.iload 9, 2) := by decide +kernel
theorem dL_load_195 : decode cL_load 195 = .ok (.aload_n 1, 1) := by decide +kernel
theorem dL_load_196 : decode cL_load 196 = .ok (.iconst 5, 1) := by decide +kernel
theorem dL_load_197 : decode cL_load 197 = .ok (.iconst 5, 1) := by decide +kernel
theorem dL_load_198 : decode cL_load 198 = .ok (.invokestatic 40, 3) := by decide +kernel
theorem dL_load_201 : decode cL_load 201 = .ok (.if_icmp .ge 185, 3) := by decide +kernel
theorem dL_load_204 : decode cL_load 204 = .ok (.aload_n 1, 1) := by decide +kernel
theorem dL_load_205 : decode cL_load 205 = .ok (.bipush 40, 2) := by decide +kernel
theorem dL_load_207 : decode cL_load 207 = .ok (.iconst 2, 1) := by decide +kernel
theorem dL_load_208 : decode cL_load 208 = .ok (.iload 9, 2) := by decide +kernel
theorem dL_load_210 : decode cL_load 210 = .ok (.imul, 1) := by decide +kernel
theorem dL_load_211 : decode cL_load 211 = .ok (.iadd, 1) := by decide +kernel
theorem dL_load_212 : decode cL_load 212 = .ok (.iload_n 2, 1) := by decide +kernel
theorem dL_load_213 : decode cL_load 213 = .ok (.invokestatic 40, 3) := by decide +kernel
theorem dL_load_216 : decode cL_load 216 = .ok (.istore 10, 2) := by decide +kernel
theorem dL_load_218 : decode cL_load 218 = .ok (.iload 10, 2) := by decide +kernel
theorem dL_load_220 : decode cL_load 220 = .ok (.iconst 1, 1) := by decide +kernel
theorem dL_load_221 : decode cL_load 221 = .ok (.iadd, 1) := by decide +kernel
theorem dL_load_222 : decode cL_load 222 = .ok (.aload_n 1, 1) := by decide +kernel
theorem dL_load_223 : decode cL_load 223 = .ok (.bipush 41, 2) := by decide +kernel
theorem dL_load_225 : decode cL_load 225 = .ok (.iconst 2, 1) := by decide +kernel
theorem dL_load_226 : decode cL_load 226 = .ok (.iload 9, 2) := by decide +kernel
theorem dL_load_228 : decode cL_load 228 = .ok (.imul, 1) := by decide +kernel
theorem dL_load_229 : decode cL_load 229 = .ok (.iadd, 1) := by decide +kernel
theorem dL_load_230 : decode cL_load 230 = .ok (.iload_n 2, 1) := by decide +kernel
theorem dL_load_231 : decode cL_load 231 = .ok (.iconst 1, 1) := by decide +kernel
theorem dL_load_232 : decode cL_load 232 = .ok (.isub, 1) := by decide +kernel
theorem dL_load_233 : decode cL_load 233 = .ok (.invokestatic 40, 3) := by decide +kernel
theorem dL_load_236 : decode cL_load 236 = .ok (.iadd, 1) := by decide +kernel
theorem dL_load_237 : decode cL_load 237 = .ok (.iload_n 2, 1) := by decide +kernel
theorem dL_load_238 : decode cL_load 238 = .ok (.irem, 1) := by decide +kernel
theorem dL_load_239 : decode cL_load 239 = .ok (.istore 11, 2) := by decide +kernel
theorem dL_load_241 : decode cL_load 241 = .ok (.iload 9, 2) := by decide +kernel
theorem dL_load_243 : decode cL_load 243 = .ok (.iconst 2, 1) := by decide +kernel
theorem dL_load_244 : decode cL_load 244 = .ok (.irem, 1) := by decide +kernel
theorem dL_load_245 : decode cL_load 245 = .ok (.ifCond .ne 71, 3) := by decide +kernel
theorem dL_load_248 : decode cL_load 248 = .ok (.aload 5, 2) := by decide +kernel
theorem dL_load_250 : decode cL_load 250 = .ok (.iload 10, 2) := by decide +kernel
theorem dL_load_252 : decode cL_load 252 = .ok (.iaload, 1) := by decide +kernel
theorem dL_load_253 : decode cL_load 253 = .ok (.iload 11, 2) := by decide +kernel
theorem dL_load_255 : decode cL_load 255 = .ok (.ishr, 1) := by decide +kernel
theorem dL_load_256 : decode cL_load 256 = .ok (.iconst 1, 1) := by decide +kernel
theorem dL_load_257 : decode cL_load 257 = .ok (.iand, 1) := by decide +kernel
theorem dL_load_258 : decode cL_load 258 = .ok (.ifCond .ne 58, 3) := by decide +kernel
theorem dL_load_261 : decode cL_load 261 = .ok (.aload 4, 2) := by decide +kernel
theorem dL_load_263 : decode cL_load 263 = .ok (.ldc 67, 2) := by decide +kernel
theorem dL_load_265 : decode cL_load 265 = .ok (.invokevirtual 56, 3) := by decide +kernel
theorem dL_load_268 : decode cL_load 268 = .ok (.iload 10, 2) := by decide +kernel
theorem dL_load_270 : decode cL_load 270 = .ok (.invokevirtual 51, 3) := by decide +kernel
theorem dL_load_273 : decode cL_load 273 = .ok (.ldc 69, 2) := by decide +kernel
theorem dL_load_275 : decode cL_load 275 = .ok (.invokevirtual 56, 3) := by decide +kernel
theorem dL_load_278 : decode cL_load 278 = .ok (.iload 11, 2) := by decide +kernel
theorem dL_load_280 : decode cL_load 280 = .ok (.invokevirtual 51, 3) := by decide +kernel
theorem dL_load_283 : decode cL_load 283 = .ok (.ldc 59, 2) := by decide +kernel
theorem dL_load_285 : decode cL_load 285 = .ok (.invokevirtual 56, 3) := by decide +kernel
theorem dL_load_288 : decode cL_load 288 = .ok (.pop, 1) := by decide +kernel
theorem dL_load_289 : decode cL_load 289 = .ok (.aload 5, 2) := by decide +kernel
theorem dL_load_291 : decode cL_load 291 = .ok (.iload 10, 2) := by decide +kernel
theorem dL_load_293 : decode cL_load 293 = .ok (.dup2, 1) := by decide +kernel
theorem dL_load_294 : decode cL_load 294 = .ok (.iaload, 1) := by decide +kernel
theorem dL_load_295 : decode cL_load 295 = .ok (.iconst 1, 1) := by decide +kernel
theorem dL_load_296 : decode cL_load 296 = .ok (.iload 11, 2) := by decide +kernel
theorem dL_load_298 : decode cL_load 298 = .ok (.ishl, 1) := by decide +kernel
theorem dL_load_299 : decode cL_load 299 = .ok (.ior, 1) := by decide +kernel
theorem dL_load_300 : decode cL_load 300 = .ok (.iastore, 1) := by decide +kernel
theorem dL_load_301 : decode cL_load 301 = .ok (.aload 5, 2) := by decide +kernel
theorem dL_load_303 : decode cL_load 303 = .ok (.iload 11, 2) := by decide +kernel
theorem dL_load_305 : decode cL_load 305 = .ok (.dup2, 1) := by decide +kernel
theorem dL_load_306 : decode cL_load 306 = .ok (.iaload, 1) := by decide +kernel
theorem dL_load_307 : decode cL_load 307 = .ok (.iconst 1, 1) := by decide +kernel
theorem dL_load_308 : decode cL_load 308 = .ok (.iload 10, 2) := by decide +kernel
theorem dL_load_310 : decode cL_load 310 = .ok (.ishl, 1) := by decide +kernel
theorem dL_load_311 : decode cL_load 311 = .ok (.ior, 1) := by decide +kernel
theorem dL_load_312 : decode cL_load 312 = .ok (.iastore, 1) := by decide +kernel
theorem dL_load_313 : decode cL_load 313 = .ok (.iinc 7 1, 3) := by decide +kernel
theorem dL_load_316 : decode cL_load 316 = .ok (.iload 9, 2) := by decide +kernel
theorem dL_load_318 : decode cL_load 318 = .ok (.iconst 2, 1) := by decide +kernel
theorem dL_load_319 : decode cL_load 319 = .ok (.irem, 1) := by decide +kernel
theorem dL_load_320 : decode cL_load 320 = .ok (.iconst 1, 1) := by decide +kernel
theorem dL_load_321 : decode cL_load 321 = .ok (.if_icmp .ne 59, 3) := by decide +kernel
theorem dL_load_324 : decode cL_load 324 = .ok (.aload 6, 2) := by decide +kernel
theorem dL_load_326 : decode cL_load 326 = .ok (.iload 10, 2) := by decide +kernel
theorem dL_load_328 : decode cL_load 328 = .ok (.iaload, 1) := by decide +kernel
theorem dL_load_329 : decode cL_load 329 = .ok (.iload 11, 2) := by decide +kernel
theorem dL_load_331 : decode cL_load 331 = .ok (.ishr, 1) := by decide +kernel
theorem dL_load_332 : decode cL_load 332 = .ok (.iconst 1, 1) := by decide +kernel
theorem dL_load_333 : decode cL_load 333 = .ok (.iand, 1) := by decide +kernel
theorem dL_load_334 : decode cL_load 334 = .ok (.ifCond .ne 46, 3) := by decide +kernel
theorem dL_load_337 : decode cL_load 337 = .ok (.aload 4, 2) := by decide +kernel
theorem dL_load_339 : decode cL_load 339 = .ok (.ldc 71, 2) := by decide +kernel
theorem dL_load_341 : decode cL_load 341 = .ok (.invokevirtual 56, 3) := by decide +kernel
theorem dL_load_344 : decode cL_load 344 = .ok (.iload 10, 2) := by decide +kernel
theorem dL_load_346 : decode cL_load 346 = .ok (.invokevirtual 51, 3) := by decide +kernel
theorem dL_load_349 : decode cL_load 349 = .ok (.ldc 69, 2) := by decide +kernel
theorem dL_load_351 : decode cL_load 351 = .ok (.invokevirtual 56, 3) := by decide +kernel
theorem dL_load_354 : decode cL_load 354 = .ok (.iload 11, 2) := by decide +kernel
theorem dL_load_356 : decode cL_load 356 = .ok (.invokevirtual 51, 3) := by decide +kernel
theorem dL_load_359 : decode cL_load 359 = .ok (.ldc 59, 2) := by decide +kernel
theorem dL_load_361 : decode cL_load 361 = .ok (.invokevirtual 56, 3) := by decide +kernel
theorem dL_load_364 : decode cL_load 364 = .ok (.pop, 1) := by decide +kernel
theorem dL_load_365 : decode cL_load 365 = .ok (.aload 6, 2) := by decide +kernel
theorem dL_load_367 : decode cL_load 367 = .ok (.iload 10, 2) := by decide +kernel
theorem dL_load_369 : decode cL_load 369 = .ok (.dup2, 1) := by decide +kernel
theorem dL_load_370 : decode cL_load 370 = .ok (.iaload, 1) := by decide +kernel
theorem dL_load_371 : decode cL_load 371 = .ok (.iconst 1, 1) := by decide +kernel
theorem dL_load_372 : decode cL_load 372 = .ok (.iload 11, 2) := by decide +kernel
theorem dL_load_374 : decode cL_load 374 = .ok (.ishl, 1) := by decide +kernel
theorem dL_load_375 : decode cL_load 375 = .ok (.ior, 1) := by decide +kernel
theorem dL_load_376 : decode cL_load 376 = .ok (.iastore, 1) := by decide +kernel
theorem dL_load_377 : decode cL_load 377 = .ok (.iinc 8 1, 3) := by decide +kernel
theorem dL_load_380 : decode cL_load 380 = .ok (.iinc 9 1, 3) := by decide +kernel
theorem dL_load_383 : decode cL_load 383 = .ok (.goto (-195), 3) := by decide +kernel
theorem dL_load_386 : decode cL_load 386 = .ok (.iload_n 2, 1) := by decide +kernel
theorem dL_load_387 : decode cL_load 387 = .ok (.ifCond .le 23, 3) := by decide +kernel
theorem dL_load_390 : decode cL_load 390 = .ok (.aload_n 1, 1) := by decide +kernel
theorem dL_load_391 : decode cL_load 391 = .ok (.bipush 6, 2) := by decide +kernel
theorem dL_load_393 : decode cL_load 393 = .ok (.iconst 5, 1) := by decide +kernel
theorem dL_load_394 : decode cL_load 394 = .ok (.invokestatic 40, 3) := by decide +kernel
theorem dL_load_397 : decode cL_load 397 = .ok (.ifCond .ne 13, 3) := by decide +kernel
theorem dL_load_400 : decode cL_load 400 = .ok (.aload_n 1, 1) := by decide +kernel
theorem dL_load_401 : decode cL_load 401 = .ok (.bipush 7, 2) := by decide +kernel
theorem dL_load_403 : decode cL_load 403 = .ok (.iload_n 2, 1) := by decide +kernel
theorem dL_load_404 : decode cL_load 404 = .ok (.invokestatic 40, 3) := by decide +kernel
theorem dL_load_407 : decode cL_load 407 = .ok (.goto 4, 3) := by decide +kernel
theorem dL_load_410 : decode cL_load 410 = .ok (.iconst (-1), 1) := by decide +kernel
theorem dL_load_411 : decode cL_load 411 = .ok (.istore 9, 2) := by decide +kernel
theorem dL_load_413 : decode cL_load 413 = .ok (.iload_n 2, 1) := by decide +kernel
theorem dL_load_414 : decode cL_load 414 = .ok (.ifCond .le 23, 3) := by decide +kernel
theorem dL_load_417 : decode cL_load 417 = .ok (.aload_n 1, 1) := by decide +kernel
theorem dL_load_418 : decode cL_load 418 = .ok (.bipush 8, 2) := by decide +kernel
theorem dL_load_420 : decode cL_load 420 = .ok (.iconst 5, 1) := by decide +kernel
theorem dL_load_421 : decode cL_load 421 = .ok (.invokestatic 40, 3) := by decide +kernel
theorem dL_load_424 : decode cL_load 424 = .ok (.ifCond .ne 13, 3) := by decide +kernel
theorem dL_load_427 : decode cL_load 427 = .ok (.aload_n 1, 1) := by decide +kernel
theorem dL_load_428 : decode cL_load 428 = .ok (.bipush 9, 2) := by decide +kernel
theorem dL_load_430 : decode cL_load 430 = .ok (.iload_n 2, 1) := by decide +kernel
theorem dL_load_431 : decode cL_load 431 = .ok (.invokestatic 40, 3) := by decide +kernel
theorem dL_load_434 : decode cL_load 434 = .ok (.goto 4, 3) := by decide +kernel
theorem dL_load_437 : decode cL_load 437 = .ok (.iconst (-1), 1) := by decide +kernel
theorem dL_load_438 : decode cL_load 438 = .ok (.istore 10, 2) := by decide +kernel
theorem dL_load_440 : decode cL_load 440 = .ok (.iload 9, 2) := by decide +kernel
theorem dL_load_442 : decode cL_load 442 = .ok (.ifCond .lt 21, 3) := by decide +kernel
theorem dL_load_445 : decode cL_load 445 = .ok (.aload 4, 2) := by decide +kernel
theorem dL_load_447 : decode cL_load 447 = .ok (.ldc 73, 2) := by decide +kernel
theorem dL_load_449 : decode cL_load 449 = .ok (.invokevirtual 56, 3) := by decide +kernel
theorem dL_load_452 : decode cL_load 452 = .ok (.iload 9, 2) := by decide +kernel
theorem dL_load_454 : decode cL_load 454 = .ok (.invokevirtual 51, 3) := by decide +kernel
theorem dL_load_457 : decode cL_load 457 = .ok (.ldc 59, 2) := by decide +kernel
theorem dL_load_459 : decode cL_load 459 = .ok (.invokevirtual 56, 3) := by decide +kernel
theorem dL_load_462 : decode cL_load 462 = .ok (.pop, 1) := by decide +kernel
theorem dL_load_463 : decode cL_load 463 = .ok (.iload 10, 2) := by decide +kernel
theorem dL_load_465 : decode cL_load 465 = .ok (.ifCond .lt 21, 3) := by decide +kernel
theorem dL_load_468 : decode cL_load 468 = .ok (.aload 4, 2) := by decide +kernel
theorem dL_load_470 : decode cL_load 470 = .ok (.ldc 75, 2) := by decide +kernel
theorem dL_load_472 : decode cL_load 472 = .ok (.invokevirtual 56, 3) := by decide +kernel
theorem dL_load_475 : decode cL_load 475 = .ok (.iload 10, 2) := by decide +kernel
theorem dL_load_477 : decode cL_load 477 = .ok (.invokevirtual 51, 3) := by decide +kernel
theorem dL_load_480 : decode cL_load 480 = .ok (.ldc 59, 2) := by decide +kernel
theorem dL_load_482 : decode cL_load 482 = .ok (.invokevirtual 56, 3) := by decide +kernel
theorem dL_load_485 : decode cL_load 485 = .ok (.pop, 1) := by decide +kernel
theorem dL_load_486 : decode cL_load 486 = .ok (.aload_n 0, 1) := by decide +kernel
theorem dL_load_487 : decode cL_load 487 = .ok (.aload 4, 2) := by decide +kernel
theorem dL_load_489 : decode cL_load 489 = .ok (.invokevirtual 77, 3) := by decide +kernel
theorem dL_load_492 : decode cL_load 492 = .ok (.invokestatic 81, 3) := by decide +kernel
theorem dL_load_495 : decode cL_load 495 = .ok (.aload_n 0, 1) := by decide +kernel
theorem dL_load_496 : decode cL_load 496 = .ok (.invokevirtual 85, 3) := by decide +kernel
theorem dL_load_499 : decode cL_load 499 = .ok (.iload_n 2, 1) := by decide +kernel
theorem dL_load_500 : decode cL_load 500 = .ok (.if_icmp .ne 56, 3) := by decide +kernel
theorem dL_load_503 : decode cL_load 503 = .ok (.aload_n 0, 1) := by decide +kernel
theorem dL_load_504 : decode cL_load 504 = .ok (.invokevirtual 88, 3) := by decide +kernel
theorem dL_load_507 : decode cL_load 507 = .ok (.ifCond .ne 49, 3) := by decide +kernel
theorem dL_load_510 : decode cL_load 510 = .ok (.aload_n 0, 1) := by decide +kernel
theorem dL_load_511 : decode cL_load 511 = .ok (.invokevirtual 91, 3) := by decide +kernel
theorem dL_load_514 : decode cL_load 514 = .ok (.iconst (-1), 1) := by decide +kernel
theorem dL_load_515 : decode cL_load 515 = .ok (.if_icmp .ne 41, 3) := by decide +kernel
theorem dL_load_518 : decode cL_load 518 = .ok (.aload_n 0, 1) := by decide +kernel
theorem dL_load_519 : decode cL_load 519 = .ok (.iconst 0, 1) := by decide +kernel
theorem dL_load_520 : decode cL_load 520 = .ok (.invokevirtual 94, 3) := by decide +kernel
theorem dL_load_523 : decode cL_load 523 = .ok (.iload_n 2, 1) := by decide +kernel
theorem dL_load_524 : decode cL_load 524 = .ok (.if_icmp .ne 32, 3) := by decide +kernel
theorem dL_load_527 : decode cL_load 527 = .ok (.aload_n 0, 1) := by decide +kernel
theorem dL_load_528 : decode cL_load 528 = .ok (.bipush 7, 2) := by decide +kernel
theorem dL_load_530 : decode cL_load 530 = .ok (.invokevirtual 94, 3) := by decide +kernel
theorem dL_load_533 : decode cL_load 533 = .ok (.ifCond .ne 23, 3) := by decide +kernel
theorem dL_load_536 : decode cL_load 536 = .ok (.aload_n 0, 1) := by decide +kernel
theorem dL_load_537 : decode cL_load 537 = .ok (.iconst 3, 1) := by decide +kernel
theorem dL_load_538 : decode cL_load 538 = .ok (.invokevirtual 94, 3) := by decide +kernel
theorem dL_load_541 : decode cL_load 541 = .ok (.iload 7, 2) := by decide +kernel
theorem dL_load_543 : decode cL_load 543 = .ok (.if_icmp .ne 13, 3) := by decide +kernel
theorem dL_load_546 : decode cL_load 546 = .ok (.aload_n 0, 1) := by decide +kernel
theorem dL_load_547 : decode cL_load 547 = .ok (.iconst 4, 1) := by decide +kernel
theorem dL_load_548 : decode cL_load 548 = .ok (.invokevirtual 94, 3) := by decide +kernel
theorem dL_load_551 : decode cL_load 551 = .ok (.iload 8, 2) := by decide +kernel
theorem dL_load_553 : decode cL_load 553 = .ok (.if_icmp .eq 5, 3) := by decide +kernel
theorem dL_load_556 : decode cL_load 556 = .ok (.iconst 0, 1) := by decide +kernel
theorem dL_load_557 : decode cL_load 557 = .ok (.ireturn, 1) := by decide +kernel
theorem dL_load_558 : decode cL_load 558 = .ok (.aload_n 0, 1) := by decide +kernel
theorem dL_load_559 : decode cL_load 559 = .ok (.iconst 5, 1) := by decide +kernel
theorem dL_load_560 : decode cL_load 560 = .ok (.invokevirtual 94, 3) := by decide +kernel
theorem dL_load_563 : decode cL_load 563 = .ok (.iload 9, 2) := by decide +kernel
theorem dL_load_565 : decode cL_load 565 = .ok (.ifCond .ge 7, 3) := by decide +kernel
theorem dL_load_568 : decode cL_load 568 = .ok (.iconst 0, 1) := by decide +kernel
theorem dL_load_569 : decode cL_load 569 = .ok (.goto 7, 3) := by decide +kernel
theorem dL_load_572 : decode cL_load 572 = .ok (.iconst 1, 1) := by decide +kernel
theorem dL_load_573 : decode cL_load 573 = .ok (.iload 9, 2) := by decide +kernel
theorem dL_load_575 : decode cL_load 575 = .ok (.ishl, 1) := by decide +kernel
theorem dL_load_576 : decode cL_load 576 = .ok (.if_icmp .ne 25, 3) := by decide +kernel
theorem dL_load_579 : decode cL_load 579 = .ok (.aload_n 0, 1) := by decide +kernel
theorem dL_load_580 : decode cL_load 580 = .ok (.bipush 6, 2) := by decide +kernel
theorem dL_load_582 : decode cL_load 582 = .ok (.invokevirtual 94, 3) := by decide +kernel
theorem dL_load_585 : decode cL_load 585 = .ok (.iload 10, 2) := by decide +kernel
theorem dL_load_587 : decode cL_load 587 = .ok (.ifCond .ge 7, 3) := by decide +kernel
theorem dL_load_590 : decode cL_load 590 = .ok (.iconst 0, 1) := by decide +kernel
theorem dL_load_591 : decode cL_load 591 = .ok (.goto 7, 3) := by decide +kernel
theorem dL_load_594 : decode cL_load 594 = .ok (.iconst 1, 1) := by decide +kernel
theorem dL_load_595 : decode cL_load 595 = .ok (.iload 10, 2) := by decide +kernel
theorem dL_load_597 : decode cL_load 597 = .ok (.ishl, 1) := by decide +kernel
theorem dL_load_598 : decode cL_load 598 = .ok (.if_icmp .eq 5, 3) := by decide +kernel
theorem dL_load_601 : decode cL_load 601 = .ok (.iconst 0, 1) := by decide +kernel
theorem dL_load_602 : decode cL_load 602 = .ok (.ireturn, 1) := by decide +kernel
theorem dL_load_603 : decode cL_load 603 = .ok (.iconst 0, 1) := by decide +kernel
theorem dL_load_604 : decode cL_load 604 = .ok (.istore 11, 2) := by decide +kernel
theorem dL_load_606 : decode cL_load 606 = .ok (.iload 11, 2) := by decide +kernel
theorem dL_load_608 : decode cL_load 608 = .ok (.iload_n 2, 1) := by decide +kernel
theorem dL_load_609 : decode cL_load 609 = .ok (.if_icmp .ge 84, 3) := by decide +kernel
theorem dL_load_612 : decode cL_load 612 = .ok (.iconst 0, 1) := by decide +kernel
theorem dL_load_613 : decode cL_load 613 = .ok (.istore 12, 2) := by decide +kernel
theorem dL_load_615 : decode cL_load 615 = .ok (.iload 12, 2) := by decide +kernel
theorem dL_load_617 : decode cL_load 617 = .ok (.iconst 3, 1) := by decide +kernel
theorem dL_load_618 : decode cL_load 618 = .ok (.if_icmp .ge 37, 3) := by decide +kernel
theorem dL_load_621 : decode cL_load 621 = .ok (.aload_n 0, 1) := by decide +kernel
theorem dL_load_622 : decode cL_load 622 = .ok (.iload 11, 2) := by decide +kernel
theorem dL_load_624 : decode cL_load 624 = .ok (.iload 12, 2) := by decide +kernel
theorem dL_load_626 : decode cL_load 626 = .ok (.invokevirtual 98, 3) := by decide +kernel
theorem dL_load_629 : decode cL_load 629 = .ok (.aload_n 1, 1) := by decide +kernel
theorem dL_load_630 : decode cL_load 630 = .ok (.bipush 10, 2) := by decide +kernel
theorem dL_load_632 : decode cL_load 632 = .ok (.iload 12, 2) := by decide +kernel
theorem dL_load_634 : decode cL_load 634 = .ok (.iadd, 1) := by decide +kernel
theorem dL_load_635 : decode cL_load 635 = .ok (.iconst 3, 1) := by decide +kernel
theorem dL_load_636 : decode cL_load 636 = .ok (.iload 11, 2) := by decide +kernel
theorem dL_load_638 : decode cL_load 638 = .ok (.imul, 1) := by decide +kernel
theorem dL_load_639 : decode cL_load 639 = .ok (.iadd, 1) := by decide +kernel
theorem dL_load_640 : decode cL_load 640 = .ok (.iload_n 3, 1) := by decide +kernel
theorem dL_load_641 : decode cL_load 641 = .ok (.invokestatic 40, 3) := by decide +kernel
theorem dL_load_644 : decode cL_load 644 = .ok (.if_icmp .eq 5, 3) := by decide +kernel
theorem dL_load_647 : decode cL_load 647 = .ok (.iconst 0, 1) := by decide +kernel
theorem dL_load_648 : decode cL_load 648 = .ok (.ireturn, 1) := by decide +kernel
theorem dL_load_649 : decode cL_load 649 = .ok (.iinc 12 1, 3) := by decide +kernel
theorem dL_load_652 : decode cL_load 652 = .ok (.goto (-37), 3) := by decide +kernel
theorem dL_load_655 : decode cL_load 655 = .ok (.aload_n 0, 1) := by decide +kernel
theorem dL_load_656 : decode cL_load 656 = .ok (.iload 11, 2) := by decide +kernel
theorem dL_load_658 : decode cL_load 658 = .ok (.iconst 3, 1) := by decide +kernel
theorem dL_load_659 : decode cL_load 659 = .ok (.invokevirtual 98, 3) := by decide +kernel
theorem dL_load_662 : decode cL_load 662 = .ok (.aload 5, 2) := by decide +kernel
theorem dL_load_664 : decode cL_load 664 = .ok (.iload 11, 2) := by decide +kernel
theorem dL_load_666 : decode cL_load 666 = .ok (.iaload, 1) := by decide +kernel
theorem dL_load_667 : decode cL_load 667 = .ok (.if_icmp .ne 18, 3) := by decide +kernel
theorem dL_load_670 : decode cL_load 670 = .ok (.aload_n 0, 1) := by decide +kernel
theorem dL_load_671 : decode cL_load 671 = .ok (.iload 11, 2) := by decide +kernel
theorem dL_load_673 : decode cL_load 673 = .ok (.iconst 4, 1) := by decide +kernel
theorem dL_load_674 : decode cL_load 674 = .ok (.invokevirtual 98, 3) := by decide +kernel
theorem dL_load_677 : decode cL_load 677 = .ok (.aload 6, 2) := by decide +kernel
theorem dL_load_679 : decode cL_load 679 = .ok (.iload 11, 2) := by decide +kernel
theorem dL_load_681 : decode cL_load 681 = .ok (.iaload, 1) := by decide +kernel
theorem dL_load_682 : decode cL_load 682 = .ok (.if_icmp .eq 5, 3) := by decide +kernel
theorem dL_load_685 : decode cL_load 685 = .ok (.iconst 0, 1) := by decide +kernel
theorem dL_load_686 : decode cL_load 686 = .ok (.ireturn, 1) := by decide +kernel
theorem dL_load_687 : decode cL_load 687 = .ok (.iinc 11 1, 3) := by decide +kernel
theorem dL_load_690 : decode cL_load 690 = .ok (.goto (-84), 3) := by decide +kernel
theorem dL_load_693 : decode cL_load 693 = .ok (.iconst 1, 1) := by decide +kernel
theorem dL_load_694 : decode cL_load 694 = .ok (.ireturn, 1) := by decide +kernel
theorem dL_sum_0 : decode cL_sum 0 = .ok (.iconst 0, 1) := by decide +kernel
theorem dL_sum_1 : decode cL_sum 1 = .ok (.istore_n 3, 1) := by decide +kernel
theorem dL_sum_2 : decode cL_sum 2 = .ok (.iconst 0, 1) := by decide +kernel
theorem dL_sum_3 : decode cL_sum 3 = .ok (.istore 4, 2) := by decide +kernel
theorem dL_sum_5 : decode cL_sum 5 = .ok (.iload 4, 2) := by decide +kernel
theorem dL_sum_7 : decode cL_sum 7 = .ok (.aload_n 0, 1) := by decide +kernel
theorem dL_sum_8 : decode cL_sum 8 = .ok (.iconst 0, 1) := by decide +kernel
theorem dL_sum_9 : decode cL_sum 9 = .ok (.invokevirtual 94, 3) := by decide +kernel
theorem dL_sum_12 : decode cL_sum 12 = .ok (.if_icmp .ge 33, 3) := by decide +kernel
theorem dL_sum_15 : decode cL_sum 15 = .ok (.iload_n 3, 1) := by decide +kernel
theorem dL_sum_16 : decode cL_sum 16 = .ok (.iload_n 1, 1) := by decide +kernel
theorem dL_sum_17 : decode cL_sum 17 = .ok (.iload 4, 2) := by decide +kernel
theorem dL_sum_19 : decode cL_sum 19 = .ok (.ishr, 1) := by decide +kernel
theorem dL_sum_20 : decode cL_sum 20 = .ok (.iconst 1, 1) := by decide +kernel
theorem dL_sum_21 : decode cL_sum 21 = .ok (.iand, 1) := by decide +kernel
theorem dL_sum_22 : decode cL_sum 22 = .ok (.iconst 1, 1) := by decide +kernel
theorem dL_sum_23 : decode cL_sum 23 = .ok (.if_icmp .ne 13, 3) := by decide +kernel
theorem dL_sum_26 : decode cL_sum 26 = .ok (.aload_n 0, 1) := by decide +kernel
theorem dL_sum_27 : decode cL_sum 27 = .ok (.iload 4, 2) := by decide +kernel
theorem dL_sum_29 : decode cL_sum 29 = .ok (.iload_n 2, 1) := by decide +kernel
theorem dL_sum_30 : decode cL_sum 30 = .ok (.invokevirtual 98, 3) := by decide +kernel
theorem dL_sum_33 : decode cL_sum 33 = .ok (.goto 4, 3) := by decide +kernel
theorem dL_sum_36 : decode cL_sum 36 = .ok (.iconst 0, 1) := by decide +kernel
theorem dL_sum_37 : decode cL_sum 37 = .ok (.iadd, 1) := by decide +kernel
theorem dL_sum_38 : decode cL_sum 38 = .ok (.istore_n 3, 1) := by decide +kernel
theorem dL_sum_39 : decode cL_sum 39 = .ok (.iinc 4 1, 3) := by decide +kernel
theorem dL_sum_42 : decode cL_sum 42 = .ok (.goto (-37), 3) := by decide +kernel
theorem dL_sum_45 : decode cL_sum 45 = .ok (.iload_n 3, 1) := by decide +kernel
theorem dL_sum_46 : decode cL_sum 46 = .ok (.ireturn, 1) := by decide +kernel
theorem dL_refusal_0 : decode cL_refusal 0 = .ok (.aload_n 0, 1) := by decide +kernel
theorem dL_refusal_1 : decode cL_refusal 1 = .ok (.iload_n 1, 1) := by decide +kernel
theorem dL_refusal_2 : decode cL_refusal 2 = .ok (.iconst 0, 1) := by decide +kernel
theorem dL_refusal_3 : decode cL_refusal 3 = .ok (.invokestatic 101, 3) := by decide +kernel
theorem dL_refusal_6 : decode cL_refusal 6 = .ok (.aload_n 0, 1) := by decide +kernel
theorem dL_refusal_7 : decode cL_refusal 7 = .ok (.iconst 1, 1) := by decide +kernel
theorem dL_refusal_8 : decode cL_refusal 8 = .ok (.invokevirtual 94, 3) := by decide +kernel
theorem dL_refusal_11 : decode cL_refusal 11 = .ok (.if_icmp .le 5, 3) := by decide +kernel
theorem dL_refusal_14 : decode cL_refusal 14 = .ok (.iconst 1, 1) := by decide +kernel
theorem dL_refusal_15 : decode cL_refusal 15 = .ok (.ireturn, 1) := by decide +kernel
theorem dL_refusal_16 : decode cL_refusal 16 = .ok (.iload_n 1, 1) := by decide +kernel
theorem dL_refusal_17 : decode cL_refusal 17 = .ok (.invokestatic 105, 3) := by decide +kernel
theorem dL_refusal_20 : decode cL_refusal 20 = .ok (.aload_n 0, 1) := by decide +kernel
theorem dL_refusal_21 : decode cL_refusal 21 = .ok (.iconst 2, 1) := by decide +kernel
theorem dL_refusal_22 : decode cL_refusal 22 = .ok (.invokevirtual 94, 3) := by decide +kernel
theorem dL_refusal_25 : decode cL_refusal 25 = .ok (.if_icmp .le 5, 3) := by decide +kernel
theorem dL_refusal_28 : decode cL_refusal 28 = .ok (.iconst 2, 1) := by decide +kernel
theorem dL_refusal_29 : decode cL_refusal 29 = .ok (.ireturn, 1) := by decide +kernel
theorem dL_refusal_30 : decode cL_refusal 30 = .ok (.iconst 0, 1) := by decide +kernel
theorem dL_refusal_31 : decode cL_refusal 31 = .ok (.istore_n 2, 1) := by decide +kernel
theorem dL_refusal_32 : decode cL_refusal 32 = .ok (.iload_n 2, 1) := by decide +kernel
theorem dL_refusal_33 : decode cL_refusal 33 = .ok (.aload_n 0, 1) := by decide +kernel
theorem dL_refusal_34 : decode cL_refusal 34 = .ok (.iconst 0, 1) := by decide +kernel
theorem dL_refusal_35 : decode cL_refusal 35 = .ok (.invokevirtual 94, 3) := by decide +kernel
theorem dL_refusal_38 : decode cL_refusal 38 = .ok (.if_icmp .ge 31, 3) := by decide +kernel
theorem dL_refusal_41 : decode cL_refusal 41 = .ok (.iload_n 1, 1) := by decide +kernel
theorem dL_refusal_42 : decode cL_refusal 42 = .ok (.iload_n 2, 1) := by decide +kernel
theorem dL_refusal_43 : decode cL_refusal 43 = .ok (.ishr, 1) := by decide +kernel
theorem dL_refusal_44 : decode cL_refusal 44 = .ok (.iconst 1, 1) := by decide +kernel
theorem dL_refusal_45 : decode cL_refusal 45 = .ok (.iand, 1) := by decide +kernel
theorem dL_refusal_46 : decode cL_refusal 46 = .ok (.iconst 1, 1) := by decide +kernel
theorem dL_refusal_47 : decode cL_refusal 47 = .ok (.if_icmp .ne 16, 3) := by decide +kernel
theorem dL_refusal_50 : decode cL_refusal 50 = .ok (.aload_n 0, 1) := by decide +kernel
theorem dL_refusal_51 : decode cL_refusal 51 = .ok (.iload_n 2, 1) := by decide +kernel
theorem dL_refusal_52 : decode cL_refusal 52 = .ok (.iconst 3, 1) := by decide +kernel
theorem dL_refusal_53 : decode cL_refusal 53 = .ok (.invokevirtual 98, 3) := by decide +kernel
theorem dL_refusal_56 : decode cL_refusal 56 = .ok (.iload_n 1, 1) := by decide +kernel
theorem dL_refusal_57 : decode cL_refusal 57 = .ok (.iand, 1) := by decide +kernel
theorem dL_refusal_58 : decode cL_refusal 58 = .ok (.ifCond .eq 5, 3) := by decide +kernel
theorem dL_refusal_61 : decode cL_refusal 61 = .ok (.iconst 3, 1) := by decide +kernel
theorem dL_refusal_62 : decode cL_refusal 62 = .ok (.ireturn, 1) := by decide +kernel
theorem dL_refusal_63 : decode cL_refusal 63 = .ok (.iinc 2 1, 3) := by decide +kernel
theorem dL_refusal_66 : decode cL_refusal 66 = .ok (.goto (-34), 3) := by decide +kernel
theorem dL_refusal_69 : decode cL_refusal 69 = .ok (.iconst 0, 1) := by decide +kernel
theorem dL_refusal_70 : decode cL_refusal 70 = .ok (.istore_n 2, 1) := by decide +kernel
theorem dL_refusal_71 : decode cL_refusal 71 = .ok (.iload_n 2, 1) := by decide +kernel
theorem dL_refusal_72 : decode cL_refusal 72 = .ok (.aload_n 0, 1) := by decide +kernel
theorem dL_refusal_73 : decode cL_refusal 73 = .ok (.iconst 0, 1) := by decide +kernel
theorem dL_refusal_74 : decode cL_refusal 74 = .ok (.invokevirtual 94, 3) := by decide +kernel
theorem dL_refusal_77 : decode cL_refusal 77 = .ok (.if_icmp .ge 33, 3) := by decide +kernel
theorem dL_refusal_80 : decode cL_refusal 80 = .ok (.iload_n 1, 1) := by decide +kernel
theorem dL_refusal_81 : decode cL_refusal 81 = .ok (.iload_n 2, 1) := by decide +kernel
theorem dL_refusal_82 : decode cL_refusal 82 = .ok (.ishr, 1) := by decide +kernel
theorem dL_refusal_83 : decode cL_refusal 83 = .ok (.iconst 1, 1) := by decide +kernel
theorem dL_refusal_84 : decode cL_refusal 84 = .ok (.iand, 1) := by decide +kernel
theorem dL_refusal_85 : decode cL_refusal 85 = .ok (.iconst 1, 1) := by decide +kernel
theorem dL_refusal_86 : decode cL_refusal 86 = .ok (.if_icmp .ne 18, 3) := by decide +kernel
theorem dL_refusal_89 : decode cL_refusal 89 = .ok (.aload_n 0, 1) := by decide +kernel
theorem dL_refusal_90 : decode cL_refusal 90 = .ok (.iload_n 2, 1) := by decide +kernel
theorem dL_refusal_91 : decode cL_refusal 91 = .ok (.iconst 4, 1) := by decide +kernel
theorem dL_refusal_92 : decode cL_refusal 92 = .ok (.invokevirtual 98, 3) := by decide +kernel
theorem dL_refusal_95 : decode cL_refusal 95 = .ok (.iload_n 1, 1) := by decide +kernel
theorem dL_refusal_96 : decode cL_refusal 96 = .ok (.iconst (-1), 1) := by decide +kernel
theorem dL_refusal_97 : decode cL_refusal 97 = .ok (.ixor, 1) := by decide +kernel
theorem dL_refusal_98 : decode cL_refusal 98 = .ok (.iand, 1) := by decide +kernel
theorem dL_refusal_99 : decode cL_refusal 99 = .ok (.ifCond .eq 5, 3) := by decide +kernel
theorem dL_refusal_102 : decode cL_refusal 102 = .ok (.iconst 4, 1) := by decide +kernel
theorem dL_refusal_103 : decode cL_refusal 103 = .ok (.ireturn, 1) := by decide +kernel
theorem dL_refusal_104 : decode cL_refusal 104 = .ok (.iinc 2 1, 3) := by decide +kernel
theorem dL_refusal_107 : decode cL_refusal 107 = .ok (.goto (-36), 3) := by decide +kernel
theorem dL_refusal_110 : decode cL_refusal 110 = .ok (.aload_n 0, 1) := by decide +kernel
theorem dL_refusal_111 : decode cL_refusal 111 = .ok (.iconst 5, 1) := by decide +kernel
theorem dL_refusal_112 : decode cL_refusal 112 = .ok (.invokevirtual 94, 3) := by decide +kernel
theorem dL_refusal_115 : decode cL_refusal 115 = .ok (.iload_n 1, 1) := by decide +kernel
theorem dL_refusal_116 : decode cL_refusal 116 = .ok (.iconst (-1), 1) := by decide +kernel
theorem dL_refusal_117 : decode cL_refusal 117 = .ok (.ixor, 1) := by decide +kernel
theorem dL_refusal_118 : decode cL_refusal 118 = .ok (.iand, 1) := by decide +kernel
theorem dL_refusal_119 : decode cL_refusal 119 = .ok (.ifCond .eq 5, 3) := by decide +kernel
theorem dL_refusal_122 : decode cL_refusal 122 = .ok (.iconst 5, 1) := by decide +kernel
theorem dL_refusal_123 : decode cL_refusal 123 = .ok (.ireturn, 1) := by decide +kernel
theorem dL_refusal_124 : decode cL_refusal 124 = .ok (.aload_n 0, 1) := by decide +kernel
theorem dL_refusal_125 : decode cL_refusal 125 = .ok (.bipush 6, 2) := by decide +kernel
theorem dL_refusal_127 : decode cL_refusal 127 = .ok (.invokevirtual 94, 3) := by decide +kernel
theorem dL_refusal_130 : decode cL_refusal 130 = .ok (.iload_n 1, 1) := by decide +kernel
theorem dL_refusal_131 : decode cL_refusal 131 = .ok (.iand, 1) := by decide +kernel
theorem dL_refusal_132 : decode cL_refusal 132 = .ok (.ifCond .eq 8, 3) := by decide +kernel
theorem dL_refusal_135 : decode cL_refusal 135 = .ok (.bipush 6, 2) := by decide +kernel
theorem dL_refusal_137 : decode cL_refusal 137 = .ok (.goto 4, 3) := by decide +kernel
theorem dL_refusal_140 : decode cL_refusal 140 = .ok (.iconst 0, 1) := by decide +kernel
theorem dL_refusal_141 : decode cL_refusal 141 = .ok (.ireturn, 1) := by decide +kernel
theorem dL_beats_0 : decode cL_beats 0 = .ok (.iload_n 0, 1) := by decide +kernel
theorem dL_beats_1 : decode cL_beats 1 = .ok (.iload_n 2, 1) := by decide +kernel
theorem dL_beats_2 : decode cL_beats 2 = .ok (.if_icmp .lt 22, 3) := by decide +kernel
theorem dL_beats_5 : decode cL_beats 5 = .ok (.iload_n 1, 1) := by decide +kernel
theorem dL_beats_6 : decode cL_beats 6 = .ok (.iload_n 3, 1) := by decide +kernel
theorem dL_beats_7 : decode cL_beats 7 = .ok (.if_icmp .lt 17, 3) := by decide +kernel
theorem dL_beats_10 : decode cL_beats 10 = .ok (.iload_n 0, 1) := by decide +kernel
theorem dL_beats_11 : decode cL_beats 11 = .ok (.iload_n 2, 1) := by decide +kernel
theorem dL_beats_12 : decode cL_beats 12 = .ok (.if_icmp .gt 8, 3) := by decide +kernel
theorem dL_beats_15 : decode cL_beats 15 = .ok (.iload_n 1, 1) := by decide +kernel
theorem dL_beats_16 : decode cL_beats 16 = .ok (.iload_n 3, 1) := by decide +kernel
theorem dL_beats_17 : decode cL_beats 17 = .ok (.if_icmp .le 7, 3) := by decide +kernel
theorem dL_beats_20 : decode cL_beats 20 = .ok (.iconst 1, 1) := by decide +kernel
theorem dL_beats_21 : decode cL_beats 21 = .ok (.goto 4, 3) := by decide +kernel
theorem dL_beats_24 : decode cL_beats 24 = .ok (.iconst 0, 1) := by decide +kernel
theorem dL_beats_25 : decode cL_beats 25 = .ok (.ireturn, 1) := by decide +kernel
theorem dL_points_0 : decode cL_points 0 = .ok (.iconst 1, 1) := by decide +kernel
theorem dL_points_1 : decode cL_points 1 = .ok (.aload_n 0, 1) := by decide +kernel
theorem dL_points_2 : decode cL_points 2 = .ok (.iconst 0, 1) := by decide +kernel
theorem dL_points_3 : decode cL_points 3 = .ok (.invokevirtual 94, 3) := by decide +kernel
theorem dL_points_6 : decode cL_points 6 = .ok (.ishl, 1) := by decide +kernel
theorem dL_points_7 : decode cL_points 7 = .ok (.istore_n 1, 1) := by decide +kernel
theorem dL_points_8 : decode cL_points 8 = .ok (.iconst 0, 1) := by decide +kernel
theorem dL_points_9 : decode cL_points 9 = .ok (.istore_n 2, 1) := by decide +kernel
theorem dL_points_10 : decode cL_points 10 = .ok (.sipush 256, 3) := by decide +kernel
theorem dL_points_13 : decode cL_points 13 = .ok (.newarray .int, 2) := by decide +kernel
theorem dL_points_15 : decode cL_points 15 = .ok (.astore_n 3, 1) := by decide +kernel
theorem dL_points_16 : decode cL_points 16 = .ok (.sipush 256, 3) := by decide +kernel
theorem dL_points_19 : decode cL_points 19 = .ok (.newarray .int, 2) := by decide +kernel
theorem dL_points_21 : decode cL_points 21 = .ok (.astore 4, 2) := by decide +kernel
theorem dL_points_23 : decode cL_points 23 = .ok (.sipush 256, 3) := by decide +kernel
theorem dL_points_26 : decode cL_points 26 = .ok (.newarray .int, 2) := by decide +kernel
theorem dL_points_28 : decode cL_points 28 = .ok (.astore 5, 2) := by decide +kernel
theorem dL_points_30 : decode cL_points 30 = .ok (.sipush 256, 3) := by decide +kernel
theorem dL_points_33 : decode cL_points 33 = .ok (.newarray .int, 2) := by decide +kernel
theorem dL_points_35 : decode cL_points 35 = .ok (.astore 6, 2) := by decide +kernel
theorem dL_points_37 : decode cL_points 37 = .ok (.sipush 256, 3) := by decide +kernel
theorem dL_points_40 : decode cL_points 40 = .ok (.newarray .int, 2) := by decide +kernel
theorem dL_points_42 : decode cL_points 42 = .ok (.astore 7, 2) := by decide +kernel
theorem dL_points_44 : decode cL_points 44 = .ok (.iconst 0, 1) := by decide +kernel
theorem dL_points_45 : decode cL_points 45 = .ok (.istore 8, 2) := by decide +kernel
theorem dL_points_47 : decode cL_points 47 = .ok (.iconst 0, 1) := by decide +kernel
theorem dL_points_48 : decode cL_points 48 = .ok (.istore 9, 2) := by decide +kernel
theorem dL_points_50 : decode cL_points 50 = .ok (.iload 9, 2) := by decide +kernel
theorem dL_points_52 : decode cL_points 52 = .ok (.iload_n 1, 1) := by decide +kernel
theorem dL_points_53 : decode cL_points 53 = .ok (.if_icmp .ge 218, 3) := by decide +kernel
theorem dL_points_56 : decode cL_points 56 = .ok (.aload_n 0, 1) := by decide +kernel
theorem dL_points_57 : decode cL_points 57 = .ok (.iload 9, 2) := by decide +kernel
theorem dL_points_59 : decode cL_points 59 = .ok (.invokestatic 116, 3) := by decide +kernel
theorem dL_points_62 : decode cL_points 62 = .ok (.istore 10, 2) := by decide +kernel
theorem dL_points_64 : decode cL_points 64 = .ok (.aload_n 0, 1) := by decide +kernel
theorem dL_points_65 : decode cL_points 65 = .ok (.iload 9, 2) := by decide +kernel
theorem dL_points_67 : decode cL_points 67 = .ok (.invokevirtual 120, 3) := by decide +kernel
theorem dL_points_70 : decode cL_points 70 = .ok (.iload 10, 2) := by decide +kernel
theorem dL_points_72 : decode cL_points 72 = .ok (.if_icmp .ne 54, 3) := by decide +kernel
theorem dL_points_75 : decode cL_points 75 = .ok (.aload_n 0, 1) := by decide +kernel
theorem dL_points_76 : decode cL_points 76 = .ok (.iload 9, 2) := by decide +kernel
theorem dL_points_78 : decode cL_points 78 = .ok (.iconst 0, 1) := by decide +kernel
theorem dL_points_79 : decode cL_points 79 = .ok (.invokevirtual 122, 3) := by decide +kernel
theorem dL_points_82 : decode cL_points 82 = .ok (.aload_n 0, 1) := by decide +kernel
theorem dL_points_83 : decode cL_points 83 = .ok (.iload 9, 2) := by decide +kernel
theorem dL_points_85 : decode cL_points 85 = .ok (.iconst 0, 1) := by decide +kernel
theorem dL_points_86 : decode cL_points 86 = .ok (.invokestatic 101, 3) := by decide +kernel
theorem dL_points_89 : decode cL_points 89 = .ok (.if_icmp .ne 37, 3) := by decide +kernel
theorem dL_points_92 : decode cL_points 92 = .ok (.aload_n 0, 1) := by decide +kernel
theorem dL_points_93 : decode cL_points 93 = .ok (.iload 9, 2) := by decide +kernel
theorem dL_points_95 : decode cL_points 95 = .ok (.iconst 1, 1) := by decide +kernel
theorem dL_points_96 : decode cL_points 96 = .ok (.invokevirtual 122, 3) := by decide +kernel
theorem dL_points_99 : decode cL_points 99 = .ok (.aload_n 0, 1) := by decide +kernel
theorem dL_points_100 : decode cL_points 100 = .ok (.iload 9, 2) := by decide +kernel
theorem dL_points_102 : decode cL_points 102 = .ok (.iconst 1, 1) := by decide +kernel
theorem dL_points_103 : decode cL_points 103 = .ok (.invokestatic 101, 3) := by decide +kernel
theorem dL_points_106 : decode cL_points 106 = .ok (.if_icmp .ne 20, 3) := by decide +kernel
theorem dL_points_109 : decode cL_points 109 = .ok (.aload_n 0, 1) := by decide +kernel
theorem dL_points_110 : decode cL_points 110 = .ok (.iload 9, 2) := by decide +kernel
theorem dL_points_112 : decode cL_points 112 = .ok (.iconst 2, 1) := by decide +kernel
theorem dL_points_113 : decode cL_points 113 = .ok (.invokevirtual 122, 3) := by decide +kernel
theorem dL_points_116 : decode cL_points 116 = .ok (.aload_n 0, 1) := by decide +kernel
theorem dL_points_117 : decode cL_points 117 = .ok (.iload 9, 2) := by decide +kernel
theorem dL_points_119 : decode cL_points 119 = .ok (.iconst 2, 1) := by decide +kernel
theorem dL_points_120 : decode cL_points 120 = .ok (.invokestatic 101, 3) := by decide +kernel
theorem dL_points_123 : decode cL_points 123 = .ok (.if_icmp .eq 5, 3) := by decide +kernel
theorem dL_points_126 : decode cL_points 126 = .ok (.iconst 0, 1) := by decide +kernel
theorem dL_points_127 : decode cL_points 127 = .ok (.ireturn, 1) := by decide +kernel
theorem dL_points_128 : decode cL_points 128 = .ok (.iload 10, 2) := by decide +kernel
theorem dL_points_130 : decode cL_points 130 = .ok (.ifCond .eq 6, 3) := by decide +kernel
theorem dL_points_133 : decode cL_points 133 = .ok (.goto 132, 3) := by decide +kernel
theorem dL_points_136 : decode cL_points 136 = .ok (.iinc 2 1, 3) := by decide +kernel
theorem dL_points_139 : decode cL_points 139 = .ok (.aload_n 0, 1) := by decide +kernel
theorem dL_points_140 : decode cL_points 140 = .ok (.iload 9, 2) := by decide +kernel
theorem dL_points_142 : decode cL_points 142 = .ok (.iconst 1, 1) := by decide +kernel
theorem dL_points_143 : decode cL_points 143 = .ok (.invokestatic 101, 3) := by decide +kernel
theorem dL_points_146 : decode cL_points 146 = .ok (.istore 11, 2) := by decide +kernel
theorem dL_points_148 : decode cL_points 148 = .ok (.aload_n 0, 1) := by decide +kernel
theorem dL_points_149 : decode cL_points 149 = .ok (.iload 9, 2) := by decide +kernel
theorem dL_points_151 : decode cL_points 151 = .ok (.iconst 2, 1) := by decide +kernel
theorem dL_points_152 : decode cL_points 152 = .ok (.invokestatic 101, 3) := by decide +kernel
theorem dL_points_155 : decode cL_points 155 = .ok (.istore 12, 2) := by decide +kernel
theorem dL_points_157 : decode cL_points 157 = .ok (.iconst 0, 1) := by decide +kernel
theorem dL_points_158 : decode cL_points 158 = .ok (.istore 13, 2) := by decide +kernel
theorem dL_points_160 : decode cL_points 160 = .ok (.iload 13, 2) := by decide +kernel
theorem dL_points_162 : decode cL_points 162 = .ok (.iload 8, 2) := by decide +kernel
theorem dL_points_164 : decode cL_points 164 = .ok (.if_icmp .ge 28, 3) := by decide +kernel
theorem dL_points_167 : decode cL_points 167 = .ok (.aload_n 3, 1) := by decide +kernel
theorem dL_points_168 : decode cL_points 168 = .ok (.iload 13, 2) := by decide +kernel
theorem dL_points_170 : decode cL_points 170 = .ok (.iaload, 1) := by decide +kernel
theorem dL_points_171 : decode cL_points 171 = .ok (.iload 11, 2) := by decide +kernel
theorem dL_points_173 : decode cL_points 173 = .ok (.if_icmp .ne 13, 3) := by decide +kernel
theorem dL_points_176 : decode cL_points 176 = .ok (.aload 4, 2) := by decide +kernel
theorem dL_points_178 : decode cL_points 178 = .ok (.iload 13, 2) := by decide +kernel
theorem dL_points_180 : decode cL_points 180 = .ok (.iaload, 1) := by decide +kernel
theorem dL_points_181 : decode cL_points 181 = .ok (.iload 12, 2) := by decide +kernel
theorem dL_points_183 : decode cL_points 183 = .ok (.if_icmp .eq 9, 3) := by decide +kernel
theorem dL_points_186 : decode cL_points 186 = .ok (.iinc 13 1, 3) := by decide +kernel
theorem dL_points_189 : decode cL_points 189 = .ok (.goto (-29), 3) := by decide +kernel
theorem dL_points_192 : decode cL_points 192 = .ok (.iload 13, 2) := by decide +kernel
theorem dL_points_194 : decode cL_points 194 = .ok (.iload 8, 2) := by decide +kernel
theorem dL_points_196 : decode cL_points 196 = .ok (.if_icmp .ne 33, 3) := by decide +kernel
theorem dL_points_199 : decode cL_points 199 = .ok (.aload_n 3, 1) := by decide +kernel
theorem dL_points_200 : decode cL_points 200 = .ok (.iload 13, 2) := by decide +kernel
theorem dL_points_202 : decode cL_points 202 = .ok (.iload 11, 2) := by decide +kernel
theorem dL_points_204 : decode cL_points 204 = .ok (.iastore, 1) := by decide +kernel
theorem dL_points_205 : decode cL_points 205 = .ok (.aload 4, 2) := by decide +kernel
theorem dL_points_207 : decode cL_points 207 = .ok (.iload 13, 2) := by decide +kernel
theorem dL_points_209 : decode cL_points 209 = .ok (.iload 12, 2) := by decide +kernel
theorem dL_points_211 : decode cL_points 211 = .ok (.iastore, 1) := by decide +kernel
theorem dL_points_212 : decode cL_points 212 = .ok (.aload 5, 2) := by decide +kernel
theorem dL_points_214 : decode cL_points 214 = .ok (.iload 13, 2) := by decide +kernel
theorem dL_points_216 : decode cL_points 216 = .ok (.iload 9, 2) := by decide +kernel
theorem dL_points_218 : decode cL_points 218 = .ok (.iastore, 1) := by decide +kernel
theorem dL_points_219 : decode cL_points 219 = .ok (.aload 6, 2) := by decide +kernel
theorem dL_points_221 : decode cL_points 221 = .ok (.iload 13, 2) := by decide +kernel
theorem dL_points_223 : decode cL_points 223 = .ok (.iload 9, 2) := by decide +kernel
theorem dL_points_225 : decode cL_points 225 = .ok (.iastore, 1) := by decide +kernel
theorem dL_points_226 : decode cL_points 226 = .ok (.iinc 8 1, 3) := by decide +kernel
theorem dL_points_229 : decode cL_points 229 = .ok (.aload 7, 2) := by decide +kernel
theorem dL_points_231 : decode cL_points 231 = .ok (.iload 13, 2) := by decide +kernel
theorem dL_points_233 : decode cL_points 233 = .ok (.dup2, 1) := by decide +kernel
theorem dL_points_234 : decode cL_points 234 = .ok (.iaload, 1) := by decide +kernel
theorem dL_points_235 : decode cL_points 235 = .ok (.iconst 1, 1) := by decide +kernel
theorem dL_points_236 : decode cL_points 236 = .ok (.iadd, 1) := by decide +kernel
theorem dL_points_237 : decode cL_points 237 = .ok (.iastore, 1) := by decide +kernel
theorem dL_points_238 : decode cL_points 238 = .ok (.aload_n 0, 1) := by decide +kernel
theorem dL_points_239 : decode cL_points 239 = .ok (.iload 9, 2) := by decide +kernel
theorem dL_points_241 : decode cL_points 241 = .ok (.iconst 0, 1) := by decide +kernel
theorem dL_points_242 : decode cL_points 242 = .ok (.invokestatic 101, 3) := by decide +kernel
theorem dL_points_245 : decode cL_points 245 = .ok (.aload_n 0, 1) := by decide +kernel
theorem dL_points_246 : decode cL_points 246 = .ok (.aload 6, 2) := by decide +kernel
theorem dL_points_248 : decode cL_points 248 = .ok (.iload 13, 2) := by decide +kernel
theorem dL_points_250 : decode cL_points 250 = .ok (.iaload, 1) := by decide +kernel
theorem dL_points_251 : decode cL_points 251 = .ok (.iconst 0, 1) := by decide +kernel
theorem dL_points_252 : decode cL_points 252 = .ok (.invokestatic 101, 3) := by decide +kernel
theorem dL_points_255 : decode cL_points 255 = .ok (.if_icmp .ge 10, 3) := by decide +kernel
theorem dL_points_258 : decode cL_points 258 = .ok (.aload 6, 2) := by decide +kernel
theorem dL_points_260 : decode cL_points 260 = .ok (.iload 13, 2) := by decide +kernel
theorem dL_points_262 : decode cL_points 262 = .ok (.iload 9, 2) := by decide +kernel
theorem dL_points_264 : decode cL_points 264 = .ok (.iastore, 1) := by decide +kernel
theorem dL_points_265 : decode cL_points 265 = .ok (.iinc 9 1, 3) := by decide +kernel
theorem dL_points_268 : decode cL_points 268 = .ok (.goto (-218), 3) := by decide +kernel
theorem dL_points_271 : decode cL_points 271 = .ok (.aload_n 0, 1) := by decide +kernel
theorem dL_points_272 : decode cL_points 272 = .ok (.invokevirtual 124, 3) := by decide +kernel
theorem dL_points_275 : decode cL_points 275 = .ok (.iload_n 2, 1) := by decide +kernel
theorem dL_points_276 : decode cL_points 276 = .ok (.if_icmp .eq 5, 3) := by decide +kernel
theorem dL_points_279 : decode cL_points 279 = .ok (.iconst 0, 1) := by decide +kernel
theorem dL_points_280 : decode cL_points 280 = .ok (.ireturn, 1) := by decide +kernel
theorem dL_points_281 : decode cL_points 281 = .ok (.aload_n 0, 1) := by decide +kernel
theorem dL_points_282 : decode cL_points 282 = .ok (.invokevirtual 127, 3) := by decide +kernel
theorem dL_points_285 : decode cL_points 285 = .ok (.istore 9, 2) := by decide +kernel
theorem dL_points_287 : decode cL_points 287 = .ok (.iconst 0, 1) := by decide +kernel
theorem dL_points_288 : decode cL_points 288 = .ok (.istore 10, 2) := by decide +kernel
theorem dL_points_290 : decode cL_points 290 = .ok (.iconst 0, 1) := by decide +kernel
theorem dL_points_291 : decode cL_points 291 = .ok (.istore 11, 2) := by decide +kernel
theorem dL_points_293 : decode cL_points 293 = .ok (.iconst 0, 1) := by decide +kernel
theorem dL_points_294 : decode cL_points 294 = .ok (.istore 12, 2) := by decide +kernel
theorem dL_points_296 : decode cL_points 296 = .ok (.iconst 0, 1) := by decide +kernel
theorem dL_points_297 : decode cL_points 297 = .ok (.istore 13, 2) := by decide +kernel
theorem dL_points_299 : decode cL_points 299 = .ok (.iconst 0, 1) := by decide +kernel
theorem dL_points_300 : decode cL_points 300 = .ok (.istore 14, 2) := by decide +kernel
theorem dL_points_302 : decode cL_points 302 = .ok (.iload 14, 2) := by decide +kernel
theorem dL_points_304 : decode cL_points 304 = .ok (.sipush 900, 3) := by decide +kernel
theorem dL_points_307 : decode cL_points 307 = .ok (.if_icmp .ge 226, 3) := by decide +kernel
theorem dL_points_310 : decode cL_points 310 = .ok (.iconst 0, 1) := by decide +kernel
theorem dL_points_311 : decode cL_points 311 = .ok (.istore 15, 2) := by decide +kernel
theorem dL_points_313 : decode cL_points 313 = .ok (.iload 15, 2) := by decide +kernel
theorem dL_points_315 : decode cL_points 315 = .ok (.iload 8, 2) := by decide +kernel
theorem dL_points_317 : decode cL_points 317 = .ok (.if_icmp .ge 210, 3) := by decide +kernel
theorem dL_points_320 : decode cL_points 320 = .ok (.aload_n 3, 1) := by decide +kernel
theorem dL_points_321 : decode cL_points 321 = .ok (.iload 15, 2) := by decide +kernel
theorem dL_points_323 : decode cL_points 323 = .ok (.iaload, 1) := by decide +kernel
theorem dL_points_324 : decode cL_points 324 = .ok (.iload 14, 2) := by decide +kernel
theorem dL_points_326 : decode cL_points 326 = .ok (.if_icmp .eq 6, 3) := by decide +kernel
theorem dL_points_329 : decode cL_points 329 = .ok (.goto 192, 3) := by decide +kernel
theorem dL_points_332 : decode cL_points 332 = .ok (.iconst 1, 1) := by decide +kernel
theorem dL_points_333 : decode cL_points 333 = .ok (.istore 16, 2) := by decide +kernel
theorem dL_points_335 : decode cL_points 335 = .ok (.iconst 0, 1) := by decide +kernel
theorem dL_points_336 : decode cL_points 336 = .ok (.istore 17, 2) := by decide +kernel
theorem dL_points_338 : decode cL_points 338 = .ok (.iload 17, 2) := by decide +kernel
theorem dL_points_340 : decode cL_points 340 = .ok (.iload 8, 2) := by decide +kernel
theorem dL_points_342 : decode cL_points 342 = .ok (.if_icmp .ge 45, 3) := by decide +kernel
theorem dL_points_345 : decode cL_points 345 = .ok (.iload 16, 2) := by decide +kernel
theorem dL_points_347 : decode cL_points 347 = .ok (.ifCond .eq 40, 3) := by decide +kernel
theorem dL_points_350 : decode cL_points 350 = .ok (.aload_n 3, 1) := by decide +kernel
theorem dL_points_351 : decode cL_points 351 = .ok (.iload 17, 2) := by decide +kernel
theorem dL_points_353 : decode cL_points 353 = .ok (.iaload, 1) := by decide +kernel
theorem dL_points_354 : decode cL_points 354 = .ok (.aload 4, 2) := by decide +kernel
theorem dL_points_356 : decode cL_points 356 = .ok (.iload 17, 2) := by decide +kernel
theorem dL_points_358 : decode cL_points 358 = .ok (.iaload, 1) := by decide +kernel
theorem dL_points_359 : decode cL_points 359 = .ok (.aload_n 3, 1) := by decide +kernel
theorem dL_points_360 : decode cL_points 360 = .ok (.iload 15, 2) := by decide +kernel
theorem dL_points_362 : decode cL_points 362 = .ok (.iaload, 1) := by decide +kernel
theorem dL_points_363 : decode cL_points 363 = .ok (.aload 4, 2) := by decide +kernel
theorem dL_points_365 : decode cL_points 365 = .ok (.iload 15, 2) := by decide +kernel
theorem dL_points_367 : decode cL_points 367 = .ok (.iaload, 1) := by decide +kernel
theorem dL_points_368 : decode cL_points 368 = .ok (.invokestatic 130, 3) := by decide +kernel
theorem dL_points_371 : decode cL_points 371 = .ok (.ifCond .ne 7, 3) := by decide +kernel
theorem dL_points_374 : decode cL_points 374 = .ok (.iconst 1, 1) := by decide +kernel
theorem dL_points_375 : decode cL_points 375 = .ok (.goto 4, 3) := by decide +kernel
theorem dL_points_378 : decode cL_points 378 = .ok (.iconst 0, 1) := by decide +kernel
theorem dL_points_379 : decode cL_points 379 = .ok (.istore 16, 2) := by decide +kernel
theorem dL_points_381 : decode cL_points 381 = .ok (.iinc 17 1, 3) := by decide +kernel
theorem dL_points_384 : decode cL_points 384 = .ok (.goto (-46), 3) := by decide +kernel
theorem dL_points_387 : decode cL_points 387 = .ok (.iload 16, 2) := by decide +kernel
theorem dL_points_389 : decode cL_points 389 = .ok (.ifCond .ne 6, 3) := by decide +kernel
theorem dL_points_392 : decode cL_points 392 = .ok (.goto 129, 3) := by decide +kernel
theorem dL_points_395 : decode cL_points 395 = .ok (.iload 11, 2) := by decide +kernel
theorem dL_points_397 : decode cL_points 397 = .ok (.iload 9, 2) := by decide +kernel
theorem dL_points_399 : decode cL_points 399 = .ok (.if_icmp .ge 94, 3) := by decide +kernel
theorem dL_points_402 : decode cL_points 402 = .ok (.aload_n 0, 1) := by decide +kernel
theorem dL_points_403 : decode cL_points 403 = .ok (.iload 11, 2) := by decide +kernel
theorem dL_points_405 : decode cL_points 405 = .ok (.iconst 0, 1) := by decide +kernel
theorem dL_points_406 : decode cL_points 406 = .ok (.invokevirtual 134, 3) := by decide +kernel
theorem dL_points_409 : decode cL_points 409 = .ok (.iload 14, 2) := by decide +kernel
theorem dL_points_411 : decode cL_points 411 = .ok (.if_icmp .ne 82, 3) := by decide +kernel
theorem dL_points_414 : decode cL_points 414 = .ok (.aload_n 0, 1) := by decide +kernel
theorem dL_points_415 : decode cL_points 415 = .ok (.iload 11, 2) := by decide +kernel
theorem dL_points_417 : decode cL_points 417 = .ok (.iconst 1, 1) := by decide +kernel
theorem dL_points_418 : decode cL_points 418 = .ok (.invokevirtual 134, 3) := by decide +kernel
theorem dL_points_421 : decode cL_points 421 = .ok (.aload 4, 2) := by decide +kernel
theorem dL_points_423 : decode cL_points 423 = .ok (.iload 15, 2) := by decide +kernel
theorem dL_points_425 : decode cL_points 425 = .ok (.iaload, 1) := by decide +kernel
theorem dL_points_426 : decode cL_points 426 = .ok (.if_icmp .ne 67, 3) := by decide +kernel
theorem dL_points_429 : decode cL_points 429 = .ok (.aload_n 0, 1) := by decide +kernel
theorem dL_points_430 : decode cL_points 430 = .ok (.iload 11, 2) := by decide +kernel
theorem dL_points_432 : decode cL_points 432 = .ok (.iconst 2, 1) := by decide +kernel
theorem dL_points_433 : decode cL_points 433 = .ok (.invokevirtual 134, 3) := by decide +kernel
theorem dL_points_436 : decode cL_points 436 = .ok (.aload 5, 2) := by decide +kernel
theorem dL_points_438 : decode cL_points 438 = .ok (.iload 15, 2) := by decide +kernel
theorem dL_points_440 : decode cL_points 440 = .ok (.iaload, 1) := by decide +kernel
theorem dL_points_441 : decode cL_points 441 = .ok (.if_icmp .ne 52, 3) := by decide +kernel
theorem dL_points_444 : decode cL_points 444 = .ok (.aload_n 0, 1) := by decide +kernel
theorem dL_points_445 : decode cL_points 445 = .ok (.iload 11, 2) := by decide +kernel
theorem dL_points_447 : decode cL_points 447 = .ok (.iconst 3, 1) := by decide +kernel
theorem dL_points_448 : decode cL_points 448 = .ok (.invokevirtual 134, 3) := by decide +kernel
theorem dL_points_451 : decode cL_points 451 = .ok (.aload 7, 2) := by decide +kernel
theorem dL_points_453 : decode cL_points 453 = .ok (.iload 15, 2) := by decide +kernel
theorem dL_points_455 : decode cL_points 455 = .ok (.iaload, 1) := by decide +kernel
theorem dL_points_456 : decode cL_points 456 = .ok (.if_icmp .ne 37, 3) := by decide +kernel
theorem dL_points_459 : decode cL_points 459 = .ok (.aload_n 0, 1) := by decide +kernel
theorem dL_points_460 : decode cL_points 460 = .ok (.iload 11, 2) := by decide +kernel
theorem dL_points_462 : decode cL_points 462 = .ok (.iconst 4, 1) := by decide +kernel
theorem dL_points_463 : decode cL_points 463 = .ok (.invokevirtual 134, 3) := by decide +kernel
theorem dL_points_466 : decode cL_points 466 = .ok (.aload_n 0, 1) := by decide +kernel
theorem dL_points_467 : decode cL_points 467 = .ok (.aload 5, 2) := by decide +kernel
theorem dL_points_469 : decode cL_points 469 = .ok (.iload 15, 2) := by decide +kernel
theorem dL_points_471 : decode cL_points 471 = .ok (.iaload, 1) := by decide +kernel
theorem dL_points_472 : decode cL_points 472 = .ok (.iconst 0, 1) := by decide +kernel
theorem dL_points_473 : decode cL_points 473 = .ok (.invokestatic 101, 3) := by decide +kernel
theorem dL_points_476 : decode cL_points 476 = .ok (.if_icmp .ne 17, 3) := by decide +kernel
theorem dL_points_479 : decode cL_points 479 = .ok (.aload_n 0, 1) := by decide +kernel
theorem dL_points_480 : decode cL_points 480 = .ok (.iload 11, 2) := by decide +kernel
theorem dL_points_482 : decode cL_points 482 = .ok (.invokevirtual 137, 3) := by decide +kernel
theorem dL_points_485 : decode cL_points 485 = .ok (.aload 6, 2) := by decide +kernel
theorem dL_points_487 : decode cL_points 487 = .ok (.iload 15, 2) := by decide +kernel
theorem dL_points_489 : decode cL_points 489 = .ok (.iaload, 1) := by decide +kernel
theorem dL_points_490 : decode cL_points 490 = .ok (.if_icmp .eq 5, 3) := by decide +kernel
theorem dL_points_493 : decode cL_points 493 = .ok (.iconst 0, 1) := by decide +kernel
theorem dL_points_494 : decode cL_points 494 = .ok (.ireturn, 1) := by decide +kernel
theorem dL_points_495 : decode cL_points 495 = .ok (.iload 12, 2) := by decide +kernel
theorem dL_points_497 : decode cL_points 497 = .ok (.iload 14, 2) := by decide +kernel
theorem dL_points_499 : decode cL_points 499 = .ok (.iload 13, 2) := by decide +kernel
theorem dL_points_501 : decode cL_points 501 = .ok (.isub, 1) := by decide +kernel
theorem dL_points_502 : decode cL_points 502 = .ok (.aload 4, 2) := by decide +kernel
theorem dL_points_504 : decode cL_points 504 = .ok (.iload 15, 2) := by decide +kernel
theorem dL_points_506 : decode cL_points 506 = .ok (.iaload, 1) := by decide +kernel
theorem dL_points_507 : decode cL_points 507 = .ok (.imul, 1) := by decide +kernel
theorem dL_points_508 : decode cL_points 508 = .ok (.iadd, 1) := by decide +kernel
theorem dL_points_509 : decode cL_points 509 = .ok (.istore 12, 2) := by decide +kernel
theorem dL_points_511 : decode cL_points 511 = .ok (.iload 14, 2) := by decide +kernel
theorem dL_points_513 : decode cL_points 513 = .ok (.istore 13, 2) := by decide +kernel
theorem dL_points_515 : decode cL_points 515 = .ok (.iinc 11 1, 3) := by decide +kernel
theorem dL_points_518 : decode cL_points 518 = .ok (.iinc 10 1, 3) := by decide +kernel
theorem dL_points_521 : decode cL_points 521 = .ok (.iinc 15 1, 3) := by decide +kernel
theorem dL_points_524 : decode cL_points 524 = .ok (.goto (-211), 3) := by decide +kernel
theorem dL_points_527 : decode cL_points 527 = .ok (.iinc 14 1, 3) := by decide +kernel
theorem dL_points_530 : decode cL_points 530 = .ok (.goto (-228), 3) := by decide +kernel
theorem dL_points_533 : decode cL_points 533 = .ok (.aload_n 0, 1) := by decide +kernel
theorem dL_points_534 : decode cL_points 534 = .ok (.invokevirtual 127, 3) := by decide +kernel
theorem dL_points_537 : decode cL_points 537 = .ok (.iload 10, 2) := by decide +kernel
theorem dL_points_539 : decode cL_points 539 = .ok (.if_icmp .ne 34, 3) := by decide +kernel
theorem dL_points_542 : decode cL_points 542 = .ok (.aload_n 0, 1) := by decide +kernel
theorem dL_points_543 : decode cL_points 543 = .ok (.invokevirtual 140, 3) := by decide +kernel
theorem dL_points_546 : decode cL_points 546 = .ok (.iload 12, 2) := by decide +kernel
theorem dL_points_548 : decode cL_points 548 = .ok (.if_icmp .ne 25, 3) := by decide +kernel
theorem dL_points_551 : decode cL_points 551 = .ok (.aload_n 0, 1) := by decide +kernel
theorem dL_points_552 : decode cL_points 552 = .ok (.invokevirtual 143, 3) := by decide +kernel
theorem dL_points_555 : decode cL_points 555 = .ok (.iload_n 2, 1) := by decide +kernel
theorem dL_points_556 : decode cL_points 556 = .ok (.ifCond .ne 7, 3) := by decide +kernel
theorem dL_points_559 : decode cL_points 559 = .ok (.dconst 0, 1) := by decide +kernel
theorem dL_points_560 : decode cL_points 560 = .ok (.goto 9, 3) := by decide +kernel
theorem dL_points_563 : decode cL_points 563 = .ok (.iload 10, 2) := by decide +kernel
theorem dL_points_565 : decode cL_points 565 = .ok (.i2d, 1) := by decide +kernel
theorem dL_points_566 : decode cL_points 566 = .ok (.iload_n 2, 1) := by decide +kernel
theorem dL_points_567 : decode cL_points 567 = .ok (.i2d, 1) := by decide +kernel
theorem dL_points_568 : decode cL_points 568 = .ok (.ddiv, 1) := by decide +kernel
theorem dL_points_569 : decode cL_points 569 = .ok (.dcmp .l, 1) := by decide +kernel
theorem dL_points_570 : decode cL_points 570 = .ok (.ifCond .eq 5, 3) := by decide +kernel
theorem dL_points_573 : decode cL_points 573 = .ok (.iconst 0, 1) := by decide +kernel
theorem dL_points_574 : decode cL_points 574 = .ok (.ireturn, 1) := by decide +kernel
theorem dL_points_575 : decode cL_points 575 = .ok (.aload_n 0, 1) := by decide +kernel
theorem dL_points_576 : decode cL_points 576 = .ok (.aload_n 3, 1) := by decide +kernel
theorem dL_points_577 : decode cL_points 577 = .ok (.aload 4, 2) := by decide +kernel
theorem dL_points_579 : decode cL_points 579 = .ok (.iload 8, 2) := by decide +kernel
theorem dL_points_581 : decode cL_points 581 = .ok (.invokestatic 147, 3) := by decide +kernel
theorem dL_points_584 : decode cL_points 584 = .ok (.ifCond .eq 15, 3) := by decide +kernel
theorem dL_points_587 : decode cL_points 587 = .ok (.aload_n 0, 1) := by decide +kernel
theorem dL_points_588 : decode cL_points 588 = .ok (.iload_n 1, 1) := by decide +kernel
theorem dL_points_589 : decode cL_points 589 = .ok (.invokestatic 151, 3) := by decide +kernel
theorem dL_points_592 : decode cL_points 592 = .ok (.ifCond .eq 7, 3) := by decide +kernel
theorem dL_points_595 : decode cL_points 595 = .ok (.iconst 1, 1) := by decide +kernel
theorem dL_points_596 : decode cL_points 596 = .ok (.goto 4, 3) := by decide +kernel
theorem dL_points_599 : decode cL_points 599 = .ok (.iconst 0, 1) := by decide +kernel
theorem dL_points_600 : decode cL_points 600 = .ok (.ireturn, 1) := by decide +kernel
theorem dL_layers_0 : decode cL_layers 0 = .ok (.iload_n 3, 1) := by decide +kernel
theorem dL_layers_1 : decode cL_layers 1 = .ok (.newarray .int, 2) := by decide +kernel
theorem dL_layers_3 : decode cL_layers 3 = .ok (.astore 4, 2) := by decide +kernel
theorem dL_layers_5 : decode cL_layers 5 = .ok (.iload_n 3, 1) := by decide +kernel
theorem dL_layers_6 : decode cL_layers 6 = .ok (.istore 5, 2) := by decide +kernel
theorem dL_layers_8 : decode cL_layers 8 = .ok (.iconst 0, 1) := by decide +kernel
theorem dL_layers_9 : decode cL_layers 9 = .ok (.istore 6, 2) := by decide +kernel
theorem dL_layers_11 : decode cL_layers 11 = .ok (.iconst 0, 1) := by decide +kernel
theorem dL_layers_12 : decode cL_layers 12 = .ok (.istore 7, 2) := by decide +kernel
theorem dL_layers_14 : decode cL_layers 14 = .ok (.iload 7, 2) := by decide +kernel
theorem dL_layers_16 : decode cL_layers 16 = .ok (.iload_n 3, 1) := by decide +kernel
theorem dL_layers_17 : decode cL_layers 17 = .ok (.if_icmp .ge 15, 3) := by decide +kernel
theorem dL_layers_20 : decode cL_layers 20 = .ok (.aload 4, 2) := by decide +kernel
theorem dL_layers_22 : decode cL_layers 22 = .ok (.iload 7, 2) := by decide +kernel
theorem dL_layers_24 : decode cL_layers 24 = .ok (.iconst (-1), 1) := by decide +kernel
theorem dL_layers_25 : decode cL_layers 25 = .ok (.iastore, 1) := by decide +kernel
theorem dL_layers_26 : decode cL_layers 26 = .ok (.iinc 7 1, 3) := by decide +kernel
theorem dL_layers_29 : decode cL_layers 29 = .ok (.goto (-15), 3) := by decide +kernel
theorem dL_layers_32 : decode cL_layers 32 = .ok (.iload 5, 2) := by decide +kernel
theorem dL_layers_34 : decode cL_layers 34 = .ok (.ifCond .le 147, 3) := by decide +kernel
theorem dL_layers_37 : decode cL_layers 37 = .ok (.iconst 0, 1) := by decide +kernel
theorem dL_layers_38 : decode cL_layers 38 = .ok (.istore 7, 2) := by decide +kernel
theorem dL_layers_40 : decode cL_layers 40 = .ok (.iconst 0, 1) := by decide +kernel
theorem dL_layers_41 : decode cL_layers 41 = .ok (.istore 8, 2) := by decide +kernel
theorem dL_layers_43 : decode cL_layers 43 = .ok (.iload 8, 2) := by decide +kernel
theorem dL_layers_45 : decode cL_layers 45 = .ok (.iload_n 3, 1) := by decide +kernel
theorem dL_layers_46 : decode cL_layers 46 = .ok (.if_icmp .ge 109, 3) := by decide +kernel
theorem dL_layers_49 : decode cL_layers 49 = .ok (.aload 4, 2) := by decide +kernel
theorem dL_layers_51 : decode cL_layers 51 = .ok (.iload 8, 2) := by decide +kernel
theorem dL_layers_53 : decode cL_layers 53 = .ok (.iaload, 1) := by decide +kernel
theorem dL_layers_54 : decode cL_layers 54 = .ok (.ifCond .ge 7, 3) := by decide +kernel
theorem dL_layers_57 : decode cL_layers 57 = .ok (.iconst 1, 1) := by decide +kernel
theorem dL_layers_58 : decode cL_layers 58 = .ok (.goto 4, 3) := by decide +kernel
theorem dL_layers_61 : decode cL_layers 61 = .ok (.iconst 0, 1) := by decide +kernel
theorem dL_layers_62 : decode cL_layers 62 = .ok (.istore 9, 2) := by decide +kernel
theorem dL_layers_64 : decode cL_layers 64 = .ok (.iconst 0, 1) := by decide +kernel
theorem dL_layers_65 : decode cL_layers 65 = .ok (.istore 10, 2) := by decide +kernel
theorem dL_layers_67 : decode cL_layers 67 = .ok (.iload 10, 2) := by decide +kernel
theorem dL_layers_69 : decode cL_layers 69 = .ok (.iload_n 3, 1) := by decide +kernel
theorem dL_layers_70 : decode cL_layers 70 = .ok (.if_icmp .ge 61, 3) := by decide +kernel
theorem dL_layers_73 : decode cL_layers 73 = .ok (.iload 9, 2) := by decide +kernel
theorem dL_layers_75 : decode cL_layers 75 = .ok (.ifCond .eq 56, 3) := by decide +kernel
theorem dL_layers_78 : decode cL_layers 78 = .ok (.aload 4, 2) := by decide +kernel
theorem dL_layers_80 : decode cL_layers 80 = .ok (.iload 10, 2) := by decide +kernel
theorem dL_layers_82 : decode cL_layers 82 = .ok (.iaload, 1) := by decide +kernel
theorem dL_layers_83 : decode cL_layers 83 = .ok (.ifCond .lt 13, 3) := by decide +kernel
theorem dL_layers_86 : decode cL_layers 86 = .ok (.aload 4, 2) := by decide +kernel
theorem dL_layers_88 : decode cL_layers 88 = .ok (.iload 10, 2) := by decide +kernel
theorem dL_layers_90 : decode cL_layers 90 = .ok (.iaload, 1) := by decide +kernel
theorem dL_layers_91 : decode cL_layers 91 = .ok (.iload 6, 2) := by decide +kernel
theorem dL_layers_93 : decode cL_layers 93 = .ok (.if_icmp .lt 25, 3) := by decide +kernel
theorem dL_layers_96 : decode cL_layers 96 = .ok (.aload_n 1, 1) := by decide +kernel
theorem dL_layers_97 : decode cL_layers 97 = .ok (.iload 10, 2) := by decide +kernel
theorem dL_layers_99 : decode cL_layers 99 = .ok (.iaload, 1) := by decide +kernel
theorem dL_layers_100 : decode cL_layers 100 = .ok (.aload_n 2, 1) := by decide +kernel
theorem dL_layers_101 : decode cL_layers 101 = .ok (.iload 10, 2) := by decide +kernel
theorem dL_layers_103 : decode cL_layers 103 = .ok (.iaload, 1) := by decide +kernel
theorem dL_layers_104 : decode cL_layers 104 = .ok (.aload_n 1, 1) := by decide +kernel
theorem dL_layers_105 : decode cL_layers 105 = .ok (.iload 8, 2) := by decide +kernel
theorem dL_layers_107 : decode cL_layers 107 = .ok (.iaload, 1) := by decide +kernel
theorem dL_layers_108 : decode cL_layers 108 = .ok (.aload_n 2, 1) := by decide +kernel
theorem dL_layers_109 : decode cL_layers 109 = .ok (.iload 8, 2) := by decide +kernel
theorem dL_layers_111 : decode cL_layers 111 = .ok (.iaload, 1) := by decide +kernel
theorem dL_layers_112 : decode cL_layers 112 = .ok (.invokestatic 130, 3) := by decide +kernel
theorem dL_layers_115 : decode cL_layers 115 = .ok (.ifCond .ne 7, 3) := by decide +kernel
theorem dL_layers_118 : decode cL_layers 118 = .ok (.iconst 1, 1) := by decide +kernel
theorem dL_layers_119 : decode cL_layers 119 = .ok (.goto 4, 3) := by decide +kernel
theorem dL_layers_122 : decode cL_layers 122 = .ok (.iconst 0, 1) := by decide +kernel
theorem dL_layers_123 : decode cL_layers 123 = .ok (.istore 9, 2) := by decide +kernel
theorem dL_layers_125 : decode cL_layers 125 = .ok (.iinc 10 1, 3) := by decide +kernel
theorem dL_layers_128 : decode cL_layers 128 = .ok (.goto (-61), 3) := by decide +kernel
theorem dL_layers_131 : decode cL_layers 131 = .ok (.iload 9, 2) := by decide +kernel
theorem dL_layers_133 : decode cL_layers 133 = .ok (.ifCond .ne 6, 3) := by decide +kernel
theorem dL_layers_136 : decode cL_layers 136 = .ok (.goto 13, 3) := by decide +kernel
theorem dL_layers_139 : decode cL_layers 139 = .ok (.aload 4, 2) := by decide +kernel
theorem dL_layers_141 : decode cL_layers 141 = .ok (.iload 8, 2) := by decide +kernel
theorem dL_layers_143 : decode cL_layers 143 = .ok (.iload 6, 2) := by decide +kernel
theorem dL_layers_145 : decode cL_layers 145 = .ok (.iastore, 1) := by decide +kernel
theorem dL_layers_146 : decode cL_layers 146 = .ok (.iinc 7 1, 3) := by decide +kernel
theorem dL_layers_149 : decode cL_layers 149 = .ok (.iinc 8 1, 3) := by decide +kernel
theorem dL_layers_152 : decode cL_layers 152 = .ok (.goto (-109), 3) := by decide +kernel
theorem dL_layers_155 : decode cL_layers 155 = .ok (.aload_n 0, 1) := by decide +kernel
theorem dL_layers_156 : decode cL_layers 156 = .ok (.iload 6, 2) := by decide +kernel
theorem dL_layers_158 : decode cL_layers 158 = .ok (.invokevirtual 155, 3) := by decide +kernel
theorem dL_layers_161 : decode cL_layers 161 = .ok (.iload 7, 2) := by decide +kernel
theorem dL_layers_163 : decode cL_layers 163 = .ok (.if_icmp .eq 5, 3) := by decide +kernel
theorem dL_layers_166 : decode cL_layers 166 = .ok (.iconst 0, 1) := by decide +kernel
theorem dL_layers_167 : decode cL_layers 167 = .ok (.ireturn, 1) := by decide +kernel
theorem dL_layers_168 : decode cL_layers 168 = .ok (.iload 5, 2) := by decide +kernel
theorem dL_layers_170 : decode cL_layers 170 = .ok (.iload 7, 2) := by decide +kernel
theorem dL_layers_172 : decode cL_layers 172 = .ok (.isub, 1) := by decide +kernel
theorem dL_layers_173 : decode cL_layers 173 = .ok (.istore 5, 2) := by decide +kernel
theorem dL_layers_175 : decode cL_layers 175 = .ok (.iinc 6 1, 3) := by decide +kernel
theorem dL_layers_178 : decode cL_layers 178 = .ok (.goto (-146), 3) := by decide +kernel
theorem dL_layers_181 : decode cL_layers 181 = .ok (.aload_n 0, 1) := by decide +kernel
theorem dL_layers_182 : decode cL_layers 182 = .ok (.invokevirtual 158, 3) := by decide +kernel
theorem dL_layers_185 : decode cL_layers 185 = .ok (.iload 6, 2) := by decide +kernel
theorem dL_layers_187 : decode cL_layers 187 = .ok (.if_icmp .eq 5, 3) := by decide +kernel
theorem dL_layers_190 : decode cL_layers 190 = .ok (.iconst 0, 1) := by decide +kernel
theorem dL_layers_191 : decode cL_layers 191 = .ok (.ireturn, 1) := by decide +kernel
theorem dL_layers_192 : decode cL_layers 192 = .ok (.iconst 0, 1) := by decide +kernel
theorem dL_layers_193 : decode cL_layers 193 = .ok (.istore 7, 2) := by decide +kernel
theorem dL_layers_195 : decode cL_layers 195 = .ok (.iload 7, 2) := by decide +kernel
theorem dL_layers_197 : decode cL_layers 197 = .ok (.iconst 1, 1) := by decide +kernel
theorem dL_layers_198 : decode cL_layers 198 = .ok (.aload_n 0, 1) := by decide +kernel
theorem dL_layers_199 : decode cL_layers 199 = .ok (.iconst 0, 1) := by decide +kernel
theorem dL_layers_200 : decode cL_layers 200 = .ok (.invokevirtual 94, 3) := by decide +kernel
theorem dL_layers_203 : decode cL_layers 203 = .ok (.ishl, 1) := by decide +kernel
theorem dL_layers_204 : decode cL_layers 204 = .ok (.if_icmp .ge 93, 3) := by decide +kernel
theorem dL_layers_207 : decode cL_layers 207 = .ok (.iconst (-1), 1) := by decide +kernel
theorem dL_layers_208 : decode cL_layers 208 = .ok (.istore 8, 2) := by decide +kernel
theorem dL_layers_210 : decode cL_layers 210 = .ok (.aload_n 0, 1) := by decide +kernel
theorem dL_layers_211 : decode cL_layers 211 = .ok (.iload 7, 2) := by decide +kernel
theorem dL_layers_213 : decode cL_layers 213 = .ok (.invokestatic 116, 3) := by decide +kernel
theorem dL_layers_216 : decode cL_layers 216 = .ok (.ifCond .ne 53, 3) := by decide +kernel
theorem dL_layers_219 : decode cL_layers 219 = .ok (.iconst 0, 1) := by decide +kernel
theorem dL_layers_220 : decode cL_layers 220 = .ok (.istore 9, 2) := by decide +kernel
theorem dL_layers_222 : decode cL_layers 222 = .ok (.iload 9, 2) := by decide +kernel
theorem dL_layers_224 : decode cL_layers 224 = .ok (.iload_n 3, 1) := by decide +kernel
theorem dL_layers_225 : decode cL_layers 225 = .ok (.if_icmp .ge 44, 3) := by decide +kernel
theorem dL_layers_228 : decode cL_layers 228 = .ok (.aload_n 1, 1) := by decide +kernel
theorem dL_layers_229 : decode cL_layers 229 = .ok (.iload 9, 2) := by decide +kernel
theorem dL_layers_231 : decode cL_layers 231 = .ok (.iaload, 1) := by decide +kernel
theorem dL_layers_232 : decode cL_layers 232 = .ok (.aload_n 0, 1) := by decide +kernel
theorem dL_layers_233 : decode cL_layers 233 = .ok (.iload 7, 2) := by decide +kernel
theorem dL_layers_235 : decode cL_layers 235 = .ok (.iconst 1, 1) := by decide +kernel
theorem dL_layers_236 : decode cL_layers 236 = .ok (.invokestatic 101, 3) := by decide +kernel
theorem dL_layers_239 : decode cL_layers 239 = .ok (.if_icmp .ne 24, 3) := by decide +kernel
theorem dL_layers_242 : decode cL_layers 242 = .ok (.aload_n 2, 1) := by decide +kernel
theorem dL_layers_243 : decode cL_layers 243 = .ok (.iload 9, 2) := by decide +kernel
theorem dL_layers_245 : decode cL_layers 245 = .ok (.iaload, 1) := by decide +kernel
theorem dL_layers_246 : decode cL_layers 246 = .ok (.aload_n 0, 1) := by decide +kernel
theorem dL_layers_247 : decode cL_layers 247 = .ok (.iload 7, 2) := by decide +kernel
theorem dL_layers_249 : decode cL_layers 249 = .ok (.iconst 2, 1) := by decide +kernel
theorem dL_layers_250 : decode cL_layers 250 = .ok (.invokestatic 101, 3) := by decide +kernel
theorem dL_layers_253 : decode cL_layers 253 = .ok (.if_icmp .ne 10, 3) := by decide +kernel
theorem dL_layers_256 : decode cL_layers 256 = .ok (.aload 4, 2) := by decide +kernel
theorem dL_layers_258 : decode cL_layers 258 = .ok (.iload 9, 2) := by decide +kernel
theorem dL_layers_260 : decode cL_layers 260 = .ok (.iaload, 1) := by decide +kernel
theorem dL_layers_261 : decode cL_layers 261 = .ok (.istore 8, 2) := by decide +kernel
theorem dL_layers_263 : decode cL_layers 263 = .ok (.iinc 9 1, 3) := by decide +kernel
theorem dL_layers_266 : decode cL_layers 266 = .ok (.goto (-44), 3) := by decide +kernel
theorem dL_layers_269 : decode cL_layers 269 = .ok (.aload_n 0, 1) := by decide +kernel
theorem dL_layers_270 : decode cL_layers 270 = .ok (.iload 7, 2) := by decide +kernel
theorem dL_layers_272 : decode cL_layers 272 = .ok (.invokevirtual 160, 3) := by decide +kernel
theorem dL_layers_275 : decode cL_layers 275 = .ok (.iload 8, 2) := by decide +kernel
theorem dL_layers_277 : decode cL_layers 277 = .ok (.if_icmp .eq 5, 3) := by decide +kernel
theorem dL_layers_280 : decode cL_layers 280 = .ok (.iconst 0, 1) := by decide +kernel
theorem dL_layers_281 : decode cL_layers 281 = .ok (.ireturn, 1) := by decide +kernel
theorem dL_layers_282 : decode cL_layers 282 = .ok (.iload 7, 2) := by decide +kernel
theorem dL_layers_284 : decode cL_layers 284 = .ok (.iconst 1, 1) := by decide +kernel
theorem dL_layers_285 : decode cL_layers 285 = .ok (.iload 7, 2) := by decide +kernel
theorem dL_layers_287 : decode cL_layers 287 = .ok (.bipush 16, 2) := by decide +kernel
theorem dL_layers_289 : decode cL_layers 289 = .ok (.idiv, 1) := by decide +kernel
theorem dL_layers_290 : decode cL_layers 290 = .ok (.iadd, 1) := by decide +kernel
theorem dL_layers_291 : decode cL_layers 291 = .ok (.iadd, 1) := by decide +kernel
theorem dL_layers_292 : decode cL_layers 292 = .ok (.istore 7, 2) := by decide +kernel
theorem dL_layers_294 : decode cL_layers 294 = .ok (.goto (-99), 3) := by decide +kernel
theorem dL_layers_297 : decode cL_layers 297 = .ok (.iconst 1, 1) := by decide +kernel
theorem dL_layers_298 : decode cL_layers 298 = .ok (.ireturn, 1) := by decide +kernel
theorem dL_asks_0 : decode cL_asks 0 = .ok (.aload_n 0, 1) := by decide +kernel
theorem dL_asks_1 : decode cL_asks 1 = .ok (.invokevirtual 127, 3) := by decide +kernel
theorem dL_asks_4 : decode cL_asks 4 = .ok (.istore_n 2, 1) := by decide +kernel
theorem dL_asks_5 : decode cL_asks 5 = .ok (.iload_n 2, 1) := by decide +kernel
theorem dL_asks_6 : decode cL_asks 6 = .ok (.newarray .int, 2) := by decide +kernel
theorem dL_asks_8 : decode cL_asks 8 = .ok (.astore_n 3, 1) := by decide +kernel
theorem dL_asks_9 : decode cL_asks 9 = .ok (.iload_n 2, 1) := by decide +kernel
theorem dL_asks_10 : decode cL_asks 10 = .ok (.newarray .int, 2) := by decide +kernel
theorem dL_asks_12 : decode cL_asks 12 = .ok (.astore 4, 2) := by decide +kernel
theorem dL_asks_14 : decode cL_asks 14 = .ok (.iconst 0, 1) := by decide +kernel
theorem dL_asks_15 : decode cL_asks 15 = .ok (.istore 5, 2) := by decide +kernel
theorem dL_asks_17 : decode cL_asks 17 = .ok (.iload 5, 2) := by decide +kernel
theorem dL_asks_19 : decode cL_asks 19 = .ok (.iload_n 2, 1) := by decide +kernel
theorem dL_asks_20 : decode cL_asks 20 = .ok (.if_icmp .ge 32, 3) := by decide +kernel
theorem dL_asks_23 : decode cL_asks 23 = .ok (.aload_n 3, 1) := by decide +kernel
theorem dL_asks_24 : decode cL_asks 24 = .ok (.iload 5, 2) := by decide +kernel
theorem dL_asks_26 : decode cL_asks 26 = .ok (.aload_n 0, 1) := by decide +kernel
theorem dL_asks_27 : decode cL_asks 27 = .ok (.iload 5, 2) := by decide +kernel
theorem dL_asks_29 : decode cL_asks 29 = .ok (.iconst 0, 1) := by decide +kernel
theorem dL_asks_30 : decode cL_asks 30 = .ok (.invokevirtual 134, 3) := by decide +kernel
theorem dL_asks_33 : decode cL_asks 33 = .ok (.iastore, 1) := by decide +kernel
theorem dL_asks_34 : decode cL_asks 34 = .ok (.aload 4, 2) := by decide +kernel
theorem dL_asks_36 : decode cL_asks 36 = .ok (.iload 5, 2) := by decide +kernel
theorem dL_asks_38 : decode cL_asks 38 = .ok (.aload_n 0, 1) := by decide +kernel
theorem dL_asks_39 : decode cL_asks 39 = .ok (.iload 5, 2) := by decide +kernel
theorem dL_asks_41 : decode cL_asks 41 = .ok (.iconst 1, 1) := by decide +kernel
theorem dL_asks_42 : decode cL_asks 42 = .ok (.invokevirtual 134, 3) := by decide +kernel
theorem dL_asks_45 : decode cL_asks 45 = .ok (.iastore, 1) := by decide +kernel
theorem dL_asks_46 : decode cL_asks 46 = .ok (.iinc 5 1, 3) := by decide +kernel
theorem dL_asks_49 : decode cL_asks 49 = .ok (.goto (-32), 3) := by decide +kernel
theorem dL_asks_52 : decode cL_asks 52 = .ok (.iconst 0, 1) := by decide +kernel
theorem dL_asks_53 : decode cL_asks 53 = .ok (.istore 5, 2) := by decide +kernel
theorem dL_asks_55 : decode cL_asks 55 = .ok (.iload 5, 2) := by decide +kernel
theorem dL_asks_57 : decode cL_asks 57 = .ok (.iload_n 1, 1) := by decide +kernel
theorem dL_asks_58 : decode cL_asks 58 = .ok (.if_icmp .ge 253, 3) := by decide +kernel
theorem dL_asks_61 : decode cL_asks 61 = .ok (.aload_n 0, 1) := by decide +kernel
theorem dL_asks_62 : decode cL_asks 62 = .ok (.iload 5, 2) := by decide +kernel
theorem dL_asks_64 : decode cL_asks 64 = .ok (.iconst 1, 1) := by decide +kernel
theorem dL_asks_65 : decode cL_asks 65 = .ok (.invokestatic 101, 3) := by decide +kernel
theorem dL_asks_68 : decode cL_asks 68 = .ok (.istore 6, 2) := by decide +kernel
theorem dL_asks_70 : decode cL_asks 70 = .ok (.aload_n 0, 1) := by decide +kernel
theorem dL_asks_71 : decode cL_asks 71 = .ok (.iload 5, 2) := by decide +kernel
theorem dL_asks_73 : decode cL_asks 73 = .ok (.iconst 2, 1) := by decide +kernel
theorem dL_asks_74 : decode cL_asks 74 = .ok (.invokestatic 101, 3) := by decide +kernel
theorem dL_asks_77 : decode cL_asks 77 = .ok (.istore 7, 2) := by decide +kernel
theorem dL_asks_79 : decode cL_asks 79 = .ok (.iconst (-1), 1) := by decide +kernel
theorem dL_asks_80 : decode cL_asks 80 = .ok (.istore 8, 2) := by decide +kernel
theorem dL_asks_82 : decode cL_asks 82 = .ok (.iconst (-1), 1) := by decide +kernel
theorem dL_asks_83 : decode cL_asks 83 = .ok (.istore 9, 2) := by decide +kernel
theorem dL_asks_85 : decode cL_asks 85 = .ok (.iconst 0, 1) := by decide +kernel
theorem dL_asks_86 : decode cL_asks 86 = .ok (.istore 10, 2) := by decide +kernel
theorem dL_asks_88 : decode cL_asks 88 = .ok (.iconst (-1), 1) := by decide +kernel
theorem dL_asks_89 : decode cL_asks 89 = .ok (.istore 11, 2) := by decide +kernel
theorem dL_asks_91 : decode cL_asks 91 = .ok (.iconst (-1), 1) := by decide +kernel
theorem dL_asks_92 : decode cL_asks 92 = .ok (.istore 12, 2) := by decide +kernel
theorem dL_asks_94 : decode cL_asks 94 = .ok (.iload_n 2, 1) := by decide +kernel
theorem dL_asks_95 : decode cL_asks 95 = .ok (.iconst 1, 1) := by decide +kernel
theorem dL_asks_96 : decode cL_asks 96 = .ok (.isub, 1) := by decide +kernel
theorem dL_asks_97 : decode cL_asks 97 = .ok (.istore 13, 2) := by decide +kernel
theorem dL_asks_99 : decode cL_asks 99 = .ok (.iload 13, 2) := by decide +kernel
theorem dL_asks_101 : decode cL_asks 101 = .ok (.ifCond .lt 136, 3) := by decide +kernel
theorem dL_asks_104 : decode cL_asks 104 = .ok (.aload_n 3, 1) := by decide +kernel
theorem dL_asks_105 : decode cL_asks 105 = .ok (.iload 13, 2) := by decide +kernel
theorem dL_asks_107 : decode cL_asks 107 = .ok (.iaload, 1) := by decide +kernel
theorem dL_asks_108 : decode cL_asks 108 = .ok (.iload 6, 2) := by decide +kernel
theorem dL_asks_110 : decode cL_asks 110 = .ok (.if_icmp .ne 18, 3) := by decide +kernel
theorem dL_asks_113 : decode cL_asks 113 = .ok (.aload 4, 2) := by decide +kernel
theorem dL_asks_115 : decode cL_asks 115 = .ok (.iload 13, 2) := by decide +kernel
theorem dL_asks_117 : decode cL_asks 117 = .ok (.iaload, 1) := by decide +kernel
theorem dL_asks_118 : decode cL_asks 118 = .ok (.iload 7, 2) := by decide +kernel
theorem dL_asks_120 : decode cL_asks 120 = .ok (.if_icmp .ne 8, 3) := by decide +kernel
theorem dL_asks_123 : decode cL_asks 123 = .ok (.iload 13, 2) := by decide +kernel
theorem dL_asks_125 : decode cL_asks 125 = .ok (.goto 5, 3) := by decide +kernel
theorem dL_asks_128 : decode cL_asks 128 = .ok (.iload 8, 2) := by decide +kernel
theorem dL_asks_130 : decode cL_asks 130 = .ok (.istore 8, 2) := by decide +kernel
theorem dL_asks_132 : decode cL_asks 132 = .ok (.aload_n 3, 1) := by decide +kernel
theorem dL_asks_133 : decode cL_asks 133 = .ok (.iload 13, 2) := by decide +kernel
theorem dL_asks_135 : decode cL_asks 135 = .ok (.iaload, 1) := by decide +kernel
theorem dL_asks_136 : decode cL_asks 136 = .ok (.aload 4, 2) := by decide +kernel
theorem dL_asks_138 : decode cL_asks 138 = .ok (.iload 13, 2) := by decide +kernel
theorem dL_asks_140 : decode cL_asks 140 = .ok (.iaload, 1) := by decide +kernel
theorem dL_asks_141 : decode cL_asks 141 = .ok (.iload 6, 2) := by decide +kernel
theorem dL_asks_143 : decode cL_asks 143 = .ok (.iload 7, 2) := by decide +kernel
theorem dL_asks_145 : decode cL_asks 145 = .ok (.invokestatic 130, 3) := by decide +kernel
theorem dL_asks_148 : decode cL_asks 148 = .ok (.istore 14, 2) := by decide +kernel
theorem dL_asks_150 : decode cL_asks 150 = .ok (.iload 14, 2) := by decide +kernel
theorem dL_asks_152 : decode cL_asks 152 = .ok (.ifCond .eq 8, 3) := by decide +kernel
theorem dL_asks_155 : decode cL_asks 155 = .ok (.iload 13, 2) := by decide +kernel
theorem dL_asks_157 : decode cL_asks 157 = .ok (.goto 5, 3) := by decide +kernel
theorem dL_asks_160 : decode cL_asks 160 = .ok (.iload 9, 2) := by decide +kernel
theorem dL_asks_162 : decode cL_asks 162 = .ok (.istore 9, 2) := by decide +kernel
theorem dL_asks_164 : decode cL_asks 164 = .ok (.iload 10, 2) := by decide +kernel
theorem dL_asks_166 : decode cL_asks 166 = .ok (.iload 14, 2) := by decide +kernel
theorem dL_asks_168 : decode cL_asks 168 = .ok (.ifCond .eq 7, 3) := by decide +kernel
theorem dL_asks_171 : decode cL_asks 171 = .ok (.iconst 1, 1) := by decide +kernel
theorem dL_asks_172 : decode cL_asks 172 = .ok (.goto 4, 3) := by decide +kernel
theorem dL_asks_175 : decode cL_asks 175 = .ok (.iconst 0, 1) := by decide +kernel
theorem dL_asks_176 : decode cL_asks 176 = .ok (.iadd, 1) := by decide +kernel
theorem dL_asks_177 : decode cL_asks 177 = .ok (.istore 10, 2) := by decide +kernel
theorem dL_asks_179 : decode cL_asks 179 = .ok (.aload_n 3, 1) := by decide +kernel
theorem dL_asks_180 : decode cL_asks 180 = .ok (.iload 13, 2) := by decide +kernel
theorem dL_asks_182 : decode cL_asks 182 = .ok (.iaload, 1) := by decide +kernel
theorem dL_asks_183 : decode cL_asks 183 = .ok (.iload 6, 2) := by decide +kernel
theorem dL_asks_185 : decode cL_asks 185 = .ok (.if_icmp .lt 16, 3) := by decide +kernel
theorem dL_asks_188 : decode cL_asks 188 = .ok (.iload 11, 2) := by decide +kernel
theorem dL_asks_190 : decode cL_asks 190 = .ok (.aload 4, 2) := by decide +kernel
theorem dL_asks_192 : decode cL_asks 192 = .ok (.iload 13, 2) := by decide +kernel
theorem dL_asks_194 : decode cL_asks 194 = .ok (.iaload, 1) := by decide +kernel
theorem dL_asks_195 : decode cL_asks 195 = .ok (.invokestatic 163, 3) := by decide +kernel
theorem dL_asks_198 : decode cL_asks 198 = .ok (.goto 5, 3) := by decide +kernel
theorem dL_asks_201 : decode cL_asks 201 = .ok (.iload 11, 2) := by decide +kernel
theorem dL_asks_203 : decode cL_asks 203 = .ok (.istore 11, 2) := by decide +kernel
theorem dL_asks_205 : decode cL_asks 205 = .ok (.aload 4, 2) := by decide +kernel
theorem dL_asks_207 : decode cL_asks 207 = .ok (.iload 13, 2) := by decide +kernel
theorem dL_asks_209 : decode cL_asks 209 = .ok (.iaload, 1) := by decide +kernel
theorem dL_asks_210 : decode cL_asks 210 = .ok (.iload 7, 2) := by decide +kernel
theorem dL_asks_212 : decode cL_asks 212 = .ok (.if_icmp .lt 15, 3) := by decide +kernel
theorem dL_asks_215 : decode cL_asks 215 = .ok (.iload 12, 2) := by decide +kernel
theorem dL_asks_217 : decode cL_asks 217 = .ok (.aload_n 3, 1) := by decide +kernel
theorem dL_asks_218 : decode cL_asks 218 = .ok (.iload 13, 2) := by decide +kernel
theorem dL_asks_220 : decode cL_asks 220 = .ok (.iaload, 1) := by decide +kernel
theorem dL_asks_221 : decode cL_asks 221 = .ok (.invokestatic 163, 3) := by decide +kernel
theorem dL_asks_224 : decode cL_asks 224 = .ok (.goto 5, 3) := by decide +kernel
theorem dL_asks_227 : decode cL_asks 227 = .ok (.iload 12, 2) := by decide +kernel
theorem dL_asks_229 : decode cL_asks 229 = .ok (.istore 12, 2) := by decide +kernel
theorem dL_asks_231 : decode cL_asks 231 = .ok (.iinc 13 (-1), 3) := by decide +kernel
theorem dL_asks_234 : decode cL_asks 234 = .ok (.goto (-135), 3) := by decide +kernel
theorem dL_asks_237 : decode cL_asks 237 = .ok (.aload_n 0, 1) := by decide +kernel
theorem dL_asks_238 : decode cL_asks 238 = .ok (.iload 5, 2) := by decide +kernel
theorem dL_asks_240 : decode cL_asks 240 = .ok (.invokevirtual 166, 3) := by decide +kernel
theorem dL_asks_243 : decode cL_asks 243 = .ok (.iload 8, 2) := by decide +kernel
theorem dL_asks_245 : decode cL_asks 245 = .ok (.if_icmp .ne 49, 3) := by decide +kernel
theorem dL_asks_248 : decode cL_asks 248 = .ok (.aload_n 0, 1) := by decide +kernel
theorem dL_asks_249 : decode cL_asks 249 = .ok (.iload 5, 2) := by decide +kernel
theorem dL_asks_251 : decode cL_asks 251 = .ok (.invokevirtual 169, 3) := by decide +kernel
theorem dL_asks_254 : decode cL_asks 254 = .ok (.iload 9, 2) := by decide +kernel
theorem dL_asks_256 : decode cL_asks 256 = .ok (.if_icmp .ne 38, 3) := by decide +kernel
theorem dL_asks_259 : decode cL_asks 259 = .ok (.aload_n 0, 1) := by decide +kernel
theorem dL_asks_260 : decode cL_asks 260 = .ok (.iload 6, 2) := by decide +kernel
theorem dL_asks_262 : decode cL_asks 262 = .ok (.iload 7, 2) := by decide +kernel
theorem dL_asks_264 : decode cL_asks 264 = .ok (.invokevirtual 172, 3) := by decide +kernel
theorem dL_asks_267 : decode cL_asks 267 = .ok (.iload 10, 2) := by decide +kernel
theorem dL_asks_269 : decode cL_asks 269 = .ok (.if_icmp .ne 25, 3) := by decide +kernel
theorem dL_asks_272 : decode cL_asks 272 = .ok (.aload_n 0, 1) := by decide +kernel
theorem dL_asks_273 : decode cL_asks 273 = .ok (.iload 6, 2) := by decide +kernel
theorem dL_asks_275 : decode cL_asks 275 = .ok (.invokevirtual 175, 3) := by decide +kernel
theorem dL_asks_278 : decode cL_asks 278 = .ok (.iload 11, 2) := by decide +kernel
theorem dL_asks_280 : decode cL_asks 280 = .ok (.if_icmp .ne 14, 3) := by decide +kernel
theorem dL_asks_283 : decode cL_asks 283 = .ok (.aload_n 0, 1) := by decide +kernel
theorem dL_asks_284 : decode cL_asks 284 = .ok (.iload 7, 2) := by decide +kernel
theorem dL_asks_286 : decode cL_asks 286 = .ok (.invokevirtual 178, 3) := by decide +kernel
theorem dL_asks_289 : decode cL_asks 289 = .ok (.iload 12, 2) := by decide +kernel
theorem dL_asks_291 : decode cL_asks 291 = .ok (.if_icmp .eq 5, 3) := by decide +kernel
theorem dL_asks_294 : decode cL_asks 294 = .ok (.iconst 0, 1) := by decide +kernel
theorem dL_asks_295 : decode cL_asks 295 = .ok (.ireturn, 1) := by decide +kernel
theorem dL_asks_296 : decode cL_asks 296 = .ok (.iload 5, 2) := by decide +kernel
theorem dL_asks_298 : decode cL_asks 298 = .ok (.iconst 1, 1) := by decide +kernel
theorem dL_asks_299 : decode cL_asks 299 = .ok (.iload 5, 2) := by decide +kernel
theorem dL_asks_301 : decode cL_asks 301 = .ok (.bipush 8, 2) := by decide +kernel
theorem dL_asks_303 : decode cL_asks 303 = .ok (.idiv, 1) := by decide +kernel
theorem dL_asks_304 : decode cL_asks 304 = .ok (.iadd, 1) := by decide +kernel
theorem dL_asks_305 : decode cL_asks 305 = .ok (.iadd, 1) := by decide +kernel
theorem dL_asks_306 : decode cL_asks 306 = .ok (.istore 5, 2) := by decide +kernel
theorem dL_asks_308 : decode cL_asks 308 = .ok (.goto (-253), 3) := by decide +kernel
theorem dL_asks_311 : decode cL_asks 311 = .ok (.iconst 1, 1) := by decide +kernel
theorem dL_asks_312 : decode cL_asks 312 = .ok (.ireturn, 1) := by decide +kernel
theorem dL_law_0 : decode cL_law 0 = .ok (.new 25, 3) := by decide +kernel
theorem dL_law_3 : decode cL_law 3 = .ok (.dup, 1) := by decide +kernel
theorem dL_law_4 : decode cL_law 4 = .ok (.invokespecial 181, 3) := by decide +kernel
theorem dL_law_7 : decode cL_law 7 = .ok (.astore_n 1, 1) := by decide +kernel
theorem dL_law_8 : decode cL_law 8 = .ok (.aload_n 1, 1) := by decide +kernel
theorem dL_law_9 : decode cL_law 9 = .ok (.aload_n 0, 1) := by decide +kernel
theorem dL_law_10 : decode cL_law 10 = .ok (.invokestatic 182, 3) := by decide +kernel
theorem dL_law_13 : decode cL_law 13 = .ok (.ifCond .eq 10, 3) := by decide +kernel
theorem dL_law_16 : decode cL_law 16 = .ok (.aload_n 1, 1) := by decide +kernel
theorem dL_law_17 : decode cL_law 17 = .ok (.invokestatic 185, 3) := by decide +kernel
theorem dL_law_20 : decode cL_law 20 = .ok (.ifCond .ne 5, 3) := by decide +kernel
theorem dL_law_23 : decode cL_law 23 = .ok (.iconst 0, 1) := by decide +kernel
theorem dL_law_24 : decode cL_law 24 = .ok (.ireturn, 1) := by decide +kernel
theorem dL_law_25 : decode cL_law 25 = .ok (.aload_n 1, 1) := by decide +kernel
theorem dL_law_26 : decode cL_law 26 = .ok (.iconst 1, 1) := by decide +kernel
theorem dL_law_27 : decode cL_law 27 = .ok (.invokevirtual 94, 3) := by decide +kernel
theorem dL_law_30 : decode cL_law 30 = .ok (.istore_n 2, 1) := by decide +kernel
theorem dL_law_31 : decode cL_law 31 = .ok (.aload_n 1, 1) := by decide +kernel
theorem dL_law_32 : decode cL_law 32 = .ok (.aload_n 0, 1) := by decide +kernel
theorem dL_law_33 : decode cL_law 33 = .ok (.bipush 60, 2) := by decide +kernel
theorem dL_law_35 : decode cL_law 35 = .ok (.bipush 60, 2) := by decide +kernel
theorem dL_law_37 : decode cL_law 37 = .ok (.invokestatic 40, 3) := by decide +kernel
theorem dL_law_40 : decode cL_law 40 = .ok (.invokevirtual 188, 3) := by decide +kernel
theorem dL_law_43 : decode cL_law 43 = .ok (.iload_n 2, 1) := by decide +kernel
theorem dL_law_44 : decode cL_law 44 = .ok (.if_icmp .ne 14, 3) := by decide +kernel
theorem dL_law_47 : decode cL_law 47 = .ok (.aload_n 1, 1) := by decide +kernel
theorem dL_law_48 : decode cL_law 48 = .ok (.invokestatic 185, 3) := by decide +kernel
theorem dL_law_51 : decode cL_law 51 = .ok (.ifCond .eq 7, 3) := by decide +kernel
theorem dL_law_54 : decode cL_law 54 = .ok (.iconst 1, 1) := by decide +kernel
theorem dL_law_55 : decode cL_law 55 = .ok (.goto 4, 3) := by decide +kernel
theorem dL_law_58 : decode cL_law 58 = .ok (.iconst 0, 1) := by decide +kernel
theorem dL_law_59 : decode cL_law 59 = .ok (.ireturn, 1) := by decide +kernel
