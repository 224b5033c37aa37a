theorem dX9_init_0 : decode cX9_init 0 = .ok (.aload_n 0, 1) := by decide +kernel
theorem dX9_init_1 : decode cX9_init 1 = .ok (.invokespecial 1, 3) := by decide +kernel
theorem dX9_init_4 : decode cX9_init 4 = .ok (.aload_n 0, 1) := by decide +kernel
theorem dX9_init_5 : decode cX9_init 5 = .ok (.bipush 7, 2) := by decide +kernel
theorem dX9_init_7 : decode cX9_init 7 = .ok (.newarray .int, 2) := by decide +kernel
theorem dX9_init_9 : decode cX9_init 9 = .ok (.putfield 7, 3) := by decide +kernel
theorem dX9_init_12 : decode cX9_init 12 = .ok (.aload_n 0, 1) := by decide +kernel
theorem dX9_init_13 : decode cX9_init 13 = .ok (.bipush 7, 2) := by decide +kernel
theorem dX9_init_15 : decode cX9_init 15 = .ok (.newarray .int, 2) := by decide +kernel
theorem dX9_init_17 : decode cX9_init 17 = .ok (.putfield 13, 3) := by decide +kernel
theorem dX9_init_20 : decode cX9_init 20 = .ok (.aload_n 0, 1) := by decide +kernel
theorem dX9_init_21 : decode cX9_init 21 = .ok (.bipush 7, 2) := by decide +kernel
theorem dX9_init_23 : decode cX9_init 23 = .ok (.newarray .int, 2) := by decide +kernel
theorem dX9_init_25 : decode cX9_init 25 = .ok (.putfield 16, 3) := by decide +kernel
theorem dX9_init_28 : decode cX9_init 28 = .ok (.aload_n 0, 1) := by decide +kernel
theorem dX9_init_29 : decode cX9_init 29 = .ok (.bipush 7, 2) := by decide +kernel
theorem dX9_init_31 : decode cX9_init 31 = .ok (.newarray .int, 2) := by decide +kernel
theorem dX9_init_33 : decode cX9_init 33 = .ok (.putfield 19, 3) := by decide +kernel
theorem dX9_init_36 : decode cX9_init 36 = .ok (.aload_n 0, 1) := by decide +kernel
theorem dX9_init_37 : decode cX9_init 37 = .ok (.bipush 7, 2) := by decide +kernel
theorem dX9_init_39 : decode cX9_init 39 = .ok (.newarray .int, 2) := by decide +kernel
theorem dX9_init_41 : decode cX9_init 41 = .ok (.putfield 22, 3) := by decide +kernel
theorem dX9_init_44 : decode cX9_init 44 = .ok (.aload_n 0, 1) := by decide +kernel
theorem dX9_init_45 : decode cX9_init 45 = .ok (.sipush 420, 3) := by decide +kernel
theorem dX9_init_48 : decode cX9_init 48 = .ok (.newarray .int, 2) := by decide +kernel
theorem dX9_init_50 : decode cX9_init 50 = .ok (.putfield 25, 3) := by decide +kernel
theorem dX9_init_53 : decode cX9_init 53 = .ok (.aload_n 0, 1) := by decide +kernel
theorem dX9_init_54 : decode cX9_init 54 = .ok (.sipush 420, 3) := by decide +kernel
theorem dX9_init_57 : decode cX9_init 57 = .ok (.newarray .int, 2) := by decide +kernel
theorem dX9_init_59 : decode cX9_init 59 = .ok (.putfield 28, 3) := by decide +kernel
theorem dX9_init_62 : decode cX9_init 62 = .ok (.aload_n 0, 1) := by decide +kernel
theorem dX9_init_63 : decode cX9_init 63 = .ok (.sipush 420, 3) := by decide +kernel
theorem dX9_init_66 : decode cX9_init 66 = .ok (.newarray .int, 2) := by decide +kernel
theorem dX9_init_68 : decode cX9_init 68 = .ok (.putfield 31, 3) := by decide +kernel
theorem dX9_init_71 : decode cX9_init 71 = .ok (.aload_n 0, 1) := by decide +kernel
theorem dX9_init_72 : decode cX9_init 72 = .ok (.bipush 60, 2) := by decide +kernel
theorem dX9_init_74 : decode cX9_init 74 = .ok (.newarray .int, 2) := by decide +kernel
theorem dX9_init_76 : decode cX9_init 76 = .ok (.putfield 34, 3) := by decide +kernel
theorem dX9_init_79 : decode cX9_init 79 = .ok (.aload_n 0, 1) := by decide +kernel
theorem dX9_init_80 : decode cX9_init 80 = .ok (.lconst 1, 1) := by decide +kernel
theorem dX9_init_81 : decode cX9_init 81 = .ok (.putfield 37, 3) := by decide +kernel
theorem dX9_init_84 : decode cX9_init 84 = .ok (.aload_n 0, 1) := by decide +kernel
theorem dX9_init_85 : decode cX9_init 85 = .ok (.bipush 6, 2) := by decide +kernel
theorem dX9_init_87 : decode cX9_init 87 = .ok (.newarray .int, 2) := by decide +kernel
theorem dX9_init_89 : decode cX9_init 89 = .ok (.putfield 41, 3) := by decide +kernel
theorem dX9_init_92 : decode cX9_init 92 = .ok (.aload_n 0, 1) := by decide +kernel
theorem dX9_init_93 : decode cX9_init 93 = .ok (.bipush 6, 2) := by decide +kernel
theorem dX9_init_95 : decode cX9_init 95 = .ok (.newarray .int, 2) := by decide +kernel
theorem dX9_init_97 : decode cX9_init 97 = .ok (.putfield 44, 3) := by decide +kernel
theorem dX9_init_100 : decode cX9_init 100 = .ok (.aload_n 0, 1) := by decide +kernel
theorem dX9_init_101 : decode cX9_init 101 = .ok (.sipush 240, 3) := by decide +kernel
theorem dX9_init_104 : decode cX9_init 104 = .ok (.newarray .int, 2) := by decide +kernel
theorem dX9_init_106 : decode cX9_init 106 = .ok (.putfield 47, 3) := by decide +kernel
theorem dX9_init_109 : decode cX9_init 109 = .ok (.aload_n 0, 1) := by decide +kernel
theorem dX9_init_110 : decode cX9_init 110 = .ok (.iconst 4, 1) := by decide +kernel
theorem dX9_init_111 : decode cX9_init 111 = .ok (.newarray .int, 2) := by decide +kernel
theorem dX9_init_113 : decode cX9_init 113 = .ok (.putfield 50, 3) := by decide +kernel
theorem dX9_init_116 : decode cX9_init 116 = .ok (.aload_n 0, 1) := by decide +kernel
theorem dX9_init_117 : decode cX9_init 117 = .ok (.sipush 240, 3) := by decide +kernel
theorem dX9_init_120 : decode cX9_init 120 = .ok (.newarray .int, 2) := by decide +kernel
theorem dX9_init_122 : decode cX9_init 122 = .ok (.putfield 53, 3) := by decide +kernel
theorem dX9_init_125 : decode cX9_init 125 = .ok (.aload_n 0, 1) := by decide +kernel
theorem dX9_init_126 : decode cX9_init 126 = .ok (.iconst 3, 1) := by decide +kernel
theorem dX9_init_127 : decode cX9_init 127 = .ok (.newarray .int, 2) := by decide +kernel
theorem dX9_init_129 : decode cX9_init 129 = .ok (.putfield 56, 3) := by decide +kernel
theorem dX9_init_132 : decode cX9_init 132 = .ok (.aload_n 0, 1) := by decide +kernel
theorem dX9_init_133 : decode cX9_init 133 = .ok (.iconst 3, 1) := by decide +kernel
theorem dX9_init_134 : decode cX9_init 134 = .ok (.newarray .int, 2) := by decide +kernel
theorem dX9_init_136 : decode cX9_init 136 = .ok (.putfield 59, 3) := by decide +kernel
theorem dX9_init_139 : decode cX9_init 139 = .ok (.aload_n 0, 1) := by decide +kernel
theorem dX9_init_140 : decode cX9_init 140 = .ok (.bipush 21, 2) := by decide +kernel
theorem dX9_init_142 : decode cX9_init 142 = .ok (.newarray .int, 2) := by decide +kernel
theorem dX9_init_144 : decode cX9_init 144 = .ok (.putfield 62, 3) := by decide +kernel
theorem dX9_init_147 : decode cX9_init 147 = .ok (.aload_n 0, 1) := by decide +kernel
theorem dX9_init_148 : decode cX9_init 148 = .ok (.bipush 21, 2) := by decide +kernel
theorem dX9_init_150 : decode cX9_init 150 = .ok (.newarray .int, 2) := by decide +kernel
theorem dX9_init_152 : decode cX9_init 152 = .ok (.putfield 65, 3) := by decide +kernel
theorem dX9_init_155 : decode cX9_init 155 = .ok (.aload_n 0, 1) := by decide +kernel
theorem dX9_init_156 : decode cX9_init 156 = .ok (.bipush 21, 2) := by decide +kernel
theorem dX9_init_158 : decode cX9_init 158 = .ok (.newarray .int, 2) := by decide +kernel
theorem dX9_init_160 : decode cX9_init 160 = .ok (.putfield 68, 3) := by decide +kernel
theorem dX9_init_163 : decode cX9_init 163 = .ok (.aload_n 0, 1) := by decide +kernel
theorem dX9_init_164 : decode cX9_init 164 = .ok (.bipush 21, 2) := by decide +kernel
theorem dX9_init_166 : decode cX9_init 166 = .ok (.newarray .int, 2) := by decide +kernel
theorem dX9_init_168 : decode cX9_init 168 = .ok (.putfield 71, 3) := by decide +kernel
theorem dX9_init_171 : decode cX9_init 171 = .ok (.aload_n 0, 1) := by decide +kernel
theorem dX9_init_172 : decode cX9_init 172 = .ok (.sipush 1260, 3) := by decide +kernel
theorem dX9_init_175 : decode cX9_init 175 = .ok (.newarray .int, 2) := by decide +kernel
theorem dX9_init_177 : decode cX9_init 177 = .ok (.putfield 74, 3) := by decide +kernel
theorem dX9_init_180 : decode cX9_init 180 = .ok (.aload_n 0, 1) := by decide +kernel
theorem dX9_init_181 : decode cX9_init 181 = .ok (.sipush 1260, 3) := by decide +kernel
theorem dX9_init_184 : decode cX9_init 184 = .ok (.newarray .int, 2) := by decide +kernel
theorem dX9_init_186 : decode cX9_init 186 = .ok (.putfield 77, 3) := by decide +kernel
theorem dX9_init_189 : decode cX9_init 189 = .ok (.aload_n 0, 1) := by decide +kernel
theorem dX9_init_190 : decode cX9_init 190 = .ok (.sipush 1260, 3) := by decide +kernel
theorem dX9_init_193 : decode cX9_init 193 = .ok (.newarray .int, 2) := by decide +kernel
theorem dX9_init_195 : decode cX9_init 195 = .ok (.putfield 80, 3) := by decide +kernel
theorem dX9_init_198 : decode cX9_init 198 = .ok (.aload_n 0, 1) := by decide +kernel
theorem dX9_init_199 : decode cX9_init 199 = .ok (.sipush 180, 3) := by decide +kernel
theorem dX9_init_202 : decode cX9_init 202 = .ok (.newarray .int, 2) := by decide +kernel
theorem dX9_init_204 : decode cX9_init 204 = .ok (.putfield 83, 3) := by decide +kernel
theorem dX9_init_207 : decode cX9_init 207 = .ok (.aload_n 0, 1) := by decide +kernel
theorem dX9_init_208 : decode cX9_init 208 = .ok (.bipush 40, 2) := by decide +kernel
theorem dX9_init_210 : decode cX9_init 210 = .ok (.newarray .int, 2) := by decide +kernel
theorem dX9_init_212 : decode cX9_init 212 = .ok (.putfield 86, 3) := by decide +kernel
theorem dX9_init_215 : decode cX9_init 215 = .ok (.aload_n 0, 1) := by decide +kernel
theorem dX9_init_216 : decode cX9_init 216 = .ok (.bipush 7, 2) := by decide +kernel
theorem dX9_init_218 : decode cX9_init 218 = .ok (.newarray .int, 2) := by decide +kernel
theorem dX9_init_220 : decode cX9_init 220 = .ok (.putfield 89, 3) := by decide +kernel
theorem dX9_init_223 : decode cX9_init 223 = .ok (.aload_n 0, 1) := by decide +kernel
theorem dX9_init_224 : decode cX9_init 224 = .ok (.bipush 7, 2) := by decide +kernel
theorem dX9_init_226 : decode cX9_init 226 = .ok (.newarray .int, 2) := by decide +kernel
theorem dX9_init_228 : decode cX9_init 228 = .ok (.putfield 92, 3) := by decide +kernel
theorem dX9_init_231 : decode cX9_init 231 = .ok (.aload_n 0, 1) := by decide +kernel
theorem dX9_init_232 : decode cX9_init 232 = .ok (.bipush 7, 2) := by decide +kernel
theorem dX9_init_234 : decode cX9_init 234 = .ok (.newarray .int, 2) := by decide +kernel
theorem dX9_init_236 : decode cX9_init 236 = .ok (.putfield 95, 3) := by decide +kernel
theorem dX9_init_239 : decode cX9_init 239 = .ok (.aload_n 0, 1) := by decide +kernel
theorem dX9_init_240 : decode cX9_init 240 = .ok (.sipush 128, 3) := by decide +kernel
theorem dX9_init_243 : decode cX9_init 243 = .ok (.newarray .long, 2) := by decide +kernel
theorem dX9_init_245 : decode cX9_init 245 = .ok (.putfield 98, 3) := by decide +kernel
theorem dX9_init_248 : decode cX9_init 248 = .ok (.aload_n 0, 1) := by decide +kernel
theorem dX9_init_249 : decode cX9_init 249 = .ok (.sipush 128, 3) := by decide +kernel
theorem dX9_init_252 : decode cX9_init 252 = .ok (.newarray .long, 2) := by decide +kernel
theorem dX9_init_254 : decode cX9_init 254 = .ok (.putfield 102, 3) := by decide +kernel
theorem dX9_init_257 : decode cX9_init 257 = .ok (.aload_n 0, 1) := by decide +kernel
theorem dX9_init_258 : decode cX9_init 258 = .ok (.bipush 7, 2) := by decide +kernel
theorem dX9_init_260 : decode cX9_init 260 = .ok (.newarray .int, 2) := by decide +kernel
theorem dX9_init_262 : decode cX9_init 262 = .ok (.putfield 105, 3) := by decide +kernel
theorem dX9_init_265 : decode cX9_init 265 = .ok (.iconst 0, 1) := by decide +kernel
theorem dX9_init_266 : decode cX9_init 266 = .ok (.istore_n 1, 1) := by decide +kernel
theorem dX9_init_267 : decode cX9_init 267 = .ok (.iload_n 1, 1) := by decide +kernel
theorem dX9_init_268 : decode cX9_init 268 = .ok (.bipush 6, 2) := by decide +kernel
theorem dX9_init_270 : decode cX9_init 270 = .ok (.if_icmp .ge 16, 3) := by decide +kernel
theorem dX9_init_273 : decode cX9_init 273 = .ok (.aload_n 0, 1) := by decide +kernel
theorem dX9_init_274 : decode cX9_init 274 = .ok (.getfield 44, 3) := by decide +kernel
theorem dX9_init_277 : decode cX9_init 277 = .ok (.iload_n 1, 1) := by decide +kernel
theorem dX9_init_278 : decode cX9_init 278 = .ok (.iconst (-1), 1) := by decide +kernel
theorem dX9_init_279 : decode cX9_init 279 = .ok (.iastore, 1) := by decide +kernel
theorem dX9_init_280 : decode cX9_init 280 = .ok (.iinc 1 1, 3) := by decide +kernel
theorem dX9_init_283 : decode cX9_init 283 = .ok (.goto (-16), 3) := by decide +kernel
theorem dX9_init_286 : decode cX9_init 286 = .ok (.iconst 0, 1) := by decide +kernel
theorem dX9_init_287 : decode cX9_init 287 = .ok (.istore_n 1, 1) := by decide +kernel
theorem dX9_init_288 : decode cX9_init 288 = .ok (.iload_n 1, 1) := by decide +kernel
theorem dX9_init_289 : decode cX9_init 289 = .ok (.iconst 4, 1) := by decide +kernel
theorem dX9_init_290 : decode cX9_init 290 = .ok (.if_icmp .ge 16, 3) := by decide +kernel
theorem dX9_init_293 : decode cX9_init 293 = .ok (.aload_n 0, 1) := by decide +kernel
theorem dX9_init_294 : decode cX9_init 294 = .ok (.getfield 50, 3) := by decide +kernel
theorem dX9_init_297 : decode cX9_init 297 = .ok (.iload_n 1, 1) := by decide +kernel
theorem dX9_init_298 : decode cX9_init 298 = .ok (.iconst (-1), 1) := by decide +kernel
theorem dX9_init_299 : decode cX9_init 299 = .ok (.iastore, 1) := by decide +kernel
theorem dX9_init_300 : decode cX9_init 300 = .ok (.iinc 1 1, 3) := by decide +kernel
theorem dX9_init_303 : decode cX9_init 303 = .ok (.goto (-15), 3) := by decide +kernel
theorem dX9_init_306 : decode cX9_init 306 = .ok (.iconst 0, 1) := by decide +kernel
theorem dX9_init_307 : decode cX9_init 307 = .ok (.istore_n 1, 1) := by decide +kernel
theorem dX9_init_308 : decode cX9_init 308 = .ok (.iload_n 1, 1) := by decide +kernel
theorem dX9_init_309 : decode cX9_init 309 = .ok (.iconst 3, 1) := by decide +kernel
theorem dX9_init_310 : decode cX9_init 310 = .ok (.if_icmp .ge 16, 3) := by decide +kernel
theorem dX9_init_313 : decode cX9_init 313 = .ok (.aload_n 0, 1) := by decide +kernel
theorem dX9_init_314 : decode cX9_init 314 = .ok (.getfield 56, 3) := by decide +kernel
theorem dX9_init_317 : decode cX9_init 317 = .ok (.iload_n 1, 1) := by decide +kernel
theorem dX9_init_318 : decode cX9_init 318 = .ok (.iconst (-1), 1) := by decide +kernel
theorem dX9_init_319 : decode cX9_init 319 = .ok (.iastore, 1) := by decide +kernel
theorem dX9_init_320 : decode cX9_init 320 = .ok (.iinc 1 1, 3) := by decide +kernel
theorem dX9_init_323 : decode cX9_init 323 = .ok (.goto (-15), 3) := by decide +kernel
theorem dX9_init_326 : decode cX9_init 326 = .ok (.return_, 1) := by decide +kernel
theorem dX9_in_0 : decode cX9_in 0 = .ok (.lload_n 0, 1) := by decide +kernel
theorem dX9_in_1 : decode cX9_in 1 = .ok (.lload_n 2, 1) := by decide +kernel
theorem dX9_in_2 : decode cX9_in 2 = .ok (.lcmp, 1) := by decide +kernel
theorem dX9_in_3 : decode cX9_in 3 = .ok (.ifCond .lt 14, 3) := by decide +kernel
theorem dX9_in_6 : decode cX9_in 6 = .ok (.lload_n 0, 1) := by decide +kernel
theorem dX9_in_7 : decode cX9_in 7 = .ok (.lload 4, 2) := by decide +kernel
theorem dX9_in_9 : decode cX9_in 9 = .ok (.lcmp, 1) := by decide +kernel
theorem dX9_in_10 : decode cX9_in 10 = .ok (.ifCond .gt 7, 3) := by decide +kernel
theorem dX9_in_13 : decode cX9_in 13 = .ok (.iconst 1, 1) := by decide +kernel
theorem dX9_in_14 : decode cX9_in 14 = .ok (.goto 4, 3) := by decide +kernel
theorem dX9_in_17 : decode cX9_in 17 = .ok (.iconst 0, 1) := by decide +kernel
theorem dX9_in_18 : decode cX9_in 18 = .ok (.ireturn, 1) := by decide +kernel
theorem dX9_has_0 : decode cX9_has 0 = .ok (.iload_n 0, 1) := by decide +kernel
theorem dX9_has_1 : decode cX9_has 1 = .ok (.iload_n 1, 1) := by decide +kernel
theorem dX9_has_2 : decode cX9_has 2 = .ok (.ishr, 1) := by decide +kernel
theorem dX9_has_3 : decode cX9_has 3 = .ok (.iconst 1, 1) := by decide +kernel
theorem dX9_has_4 : decode cX9_has 4 = .ok (.iand, 1) := by decide +kernel
theorem dX9_has_5 : decode cX9_has 5 = .ok (.iconst 1, 1) := by decide +kernel
theorem dX9_has_6 : decode cX9_has 6 = .ok (.if_icmp .ne 7, 3) := by decide +kernel
theorem dX9_has_9 : decode cX9_has 9 = .ok (.iconst 1, 1) := by decide +kernel
theorem dX9_has_10 : decode cX9_has 10 = .ok (.goto 4, 3) := by decide +kernel
theorem dX9_has_13 : decode cX9_has 13 = .ok (.iconst 0, 1) := by decide +kernel
theorem dX9_has_14 : decode cX9_has 14 = .ok (.ireturn, 1) := by decide +kernel
theorem dX9_bits_0 : decode cX9_bits 0 = .ok (.iconst 0, 1) := by decide +kernel
theorem dX9_bits_1 : decode cX9_bits 1 = .ok (.istore_n 1, 1) := by decide +kernel
theorem dX9_bits_2 : decode cX9_bits 2 = .ok (.iconst 0, 1) := by decide +kernel
theorem dX9_bits_3 : decode cX9_bits 3 = .ok (.istore_n 2, 1) := by decide +kernel
theorem dX9_bits_4 : decode cX9_bits 4 = .ok (.iload_n 2, 1) := by decide +kernel
theorem dX9_bits_5 : decode cX9_bits 5 = .ok (.bipush 7, 2) := by decide +kernel
theorem dX9_bits_7 : decode cX9_bits 7 = .ok (.if_icmp .ge 17, 3) := by decide +kernel
theorem dX9_bits_10 : decode cX9_bits 10 = .ok (.iload_n 1, 1) := by decide +kernel
theorem dX9_bits_11 : decode cX9_bits 11 = .ok (.iload_n 0, 1) := by decide +kernel
theorem dX9_bits_12 : decode cX9_bits 12 = .ok (.iload_n 2, 1) := by decide +kernel
theorem dX9_bits_13 : decode cX9_bits 13 = .ok (.ishr, 1) := by decide +kernel
theorem dX9_bits_14 : decode cX9_bits 14 = .ok (.iconst 1, 1) := by decide +kernel
theorem dX9_bits_15 : decode cX9_bits 15 = .ok (.iand, 1) := by decide +kernel
theorem dX9_bits_16 : decode cX9_bits 16 = .ok (.iadd, 1) := by decide +kernel
theorem dX9_bits_17 : decode cX9_bits 17 = .ok (.istore_n 1, 1) := by decide +kernel
theorem dX9_bits_18 : decode cX9_bits 18 = .ok (.iinc 2 1, 3) := by decide +kernel
theorem dX9_bits_21 : decode cX9_bits 21 = .ok (.goto (-17), 3) := by decide +kernel
theorem dX9_bits_24 : decode cX9_bits 24 = .ok (.iload_n 1, 1) := by decide +kernel
theorem dX9_bits_25 : decode cX9_bits 25 = .ok (.ireturn, 1) := by decide +kernel
theorem dX9_finds_0 : decode cX9_finds 0 = .ok (.aload_n 0, 1) := by decide +kernel
theorem dX9_finds_1 : decode cX9_finds 1 = .ok (.iload_n 1, 1) := by decide +kernel
theorem dX9_finds_2 : decode cX9_finds 2 = .ok (.putfield 108, 3) := by decide +kernel
theorem dX9_finds_5 : decode cX9_finds 5 = .ok (.aload_n 0, 1) := by decide +kernel
theorem dX9_finds_6 : decode cX9_finds 6 = .ok (.getfield 41, 3) := by decide +kernel
theorem dX9_finds_9 : decode cX9_finds 9 = .ok (.iload_n 1, 1) := by decide +kernel
theorem dX9_finds_10 : decode cX9_finds 10 = .ok (.dup2, 1) := by decide +kernel
theorem dX9_finds_11 : decode cX9_finds 11 = .ok (.iaload, 1) := by decide +kernel
theorem dX9_finds_12 : decode cX9_finds 12 = .ok (.iconst 1, 1) := by decide +kernel
theorem dX9_finds_13 : decode cX9_finds 13 = .ok (.iadd, 1) := by decide +kernel
theorem dX9_finds_14 : decode cX9_finds 14 = .ok (.iastore, 1) := by decide +kernel
theorem dX9_finds_15 : decode cX9_finds 15 = .ok (.bipush (-3), 2) := by decide +kernel
theorem dX9_finds_17 : decode cX9_finds 17 = .ok (.ireturn, 1) := by decide +kernel
theorem dX9_isRow_0 : decode cX9_isRow 0 = .ok (.iload_n 0, 1) := by decide +kernel
theorem dX9_isRow_1 : decode cX9_isRow 1 = .ok (.i2l, 1) := by decide +kernel
theorem dX9_isRow_2 : decode cX9_isRow 2 = .ok (.lconst 0, 1) := by decide +kernel
theorem dX9_isRow_3 : decode cX9_isRow 3 = .ok (.ldc2_w 112, 3) := by decide +kernel
theorem dX9_isRow_6 : decode cX9_isRow 6 = .ok (.invokestatic 114, 3) := by decide +kernel
theorem dX9_isRow_9 : decode cX9_isRow 9 = .ok (.ireturn, 1) := by decide +kernel
theorem dX9_isText_0 : decode cX9_isText 0 = .ok (.iload_n 0, 1) := by decide +kernel
theorem dX9_isText_1 : decode cX9_isText 1 = .ok (.i2l, 1) := by decide +kernel
theorem dX9_isText_2 : decode cX9_isText 2 = .ok (.lconst 0, 1) := by decide +kernel
theorem dX9_isText_3 : decode cX9_isText 3 = .ok (.ldc2_w 118, 3) := by decide +kernel
theorem dX9_isText_6 : decode cX9_isText 6 = .ok (.invokestatic 114, 3) := by decide +kernel
theorem dX9_isText_9 : decode cX9_isText 9 = .ok (.ireturn, 1) := by decide +kernel
theorem dX9_isOne_0 : decode cX9_isOne 0 = .ok (.iload_n 1, 1) := by decide +kernel
theorem dX9_isOne_1 : decode cX9_isOne 1 = .ok (.i2l, 1) := by decide +kernel
theorem dX9_isOne_2 : decode cX9_isOne 2 = .ok (.lconst 0, 1) := by decide +kernel
theorem dX9_isOne_3 : decode cX9_isOne 3 = .ok (.aload_n 0, 1) := by decide +kernel
theorem dX9_isOne_4 : decode cX9_isOne 4 = .ok (.getfield 120, 3) := by decide +kernel
theorem dX9_isOne_7 : decode cX9_isOne 7 = .ok (.iconst 1, 1) := by decide +kernel
theorem dX9_isOne_8 : decode cX9_isOne 8 = .ok (.isub, 1) := by decide +kernel
theorem dX9_isOne_9 : decode cX9_isOne 9 = .ok (.i2l, 1) := by decide +kernel
theorem dX9_isOne_10 : decode cX9_isOne 10 = .ok (.invokestatic 114, 3) := by decide +kernel
theorem dX9_isOne_13 : decode cX9_isOne 13 = .ok (.ireturn, 1) := by decide +kernel
theorem dX9_row_0 : decode cX9_row 0 = .ok (.iload_n 1, 1) := by decide +kernel
theorem dX9_row_1 : decode cX9_row 1 = .ok (.invokestatic 123, 3) := by decide +kernel
theorem dX9_row_4 : decode cX9_row 4 = .ok (.ifCond .eq 9, 3) := by decide +kernel
theorem dX9_row_7 : decode cX9_row 7 = .ok (.iload_n 2, 1) := by decide +kernel
theorem dX9_row_8 : decode cX9_row 8 = .ok (.bipush 40, 2) := by decide +kernel
theorem dX9_row_10 : decode cX9_row 10 = .ok (.if_icmp .le 5, 3) := by decide +kernel
theorem dX9_row_13 : decode cX9_row 13 = .ok (.iconst (-1), 1) := by decide +kernel
theorem dX9_row_14 : decode cX9_row 14 = .ok (.ireturn, 1) := by decide +kernel
theorem dX9_row_15 : decode cX9_row 15 = .ok (.iload_n 2, 1) := by decide +kernel
theorem dX9_row_16 : decode cX9_row 16 = .ok (.ifCond .ge 9, 3) := by decide +kernel
theorem dX9_row_19 : decode cX9_row 19 = .ok (.aload_n 0, 1) := by decide +kernel
theorem dX9_row_20 : decode cX9_row 20 = .ok (.iconst 5, 1) := by decide +kernel
theorem dX9_row_21 : decode cX9_row 21 = .ok (.invokevirtual 127, 3) := by decide +kernel
theorem dX9_row_24 : decode cX9_row 24 = .ok (.ireturn, 1) := by decide +kernel
theorem dX9_row_25 : decode cX9_row 25 = .ok (.aload_n 0, 1) := by decide +kernel
theorem dX9_row_26 : decode cX9_row 26 = .ok (.getfield 44, 3) := by decide +kernel
theorem dX9_row_29 : decode cX9_row 29 = .ok (.iload_n 1, 1) := by decide +kernel
theorem dX9_row_30 : decode cX9_row 30 = .ok (.iload_n 2, 1) := by decide +kernel
theorem dX9_row_31 : decode cX9_row 31 = .ok (.iastore, 1) := by decide +kernel
theorem dX9_row_32 : decode cX9_row 32 = .ok (.iconst 0, 1) := by decide +kernel
theorem dX9_row_33 : decode cX9_row 33 = .ok (.istore_n 3, 1) := by decide +kernel
theorem dX9_row_34 : decode cX9_row 34 = .ok (.iload_n 3, 1) := by decide +kernel
theorem dX9_row_35 : decode cX9_row 35 = .ok (.bipush 40, 2) := by decide +kernel
theorem dX9_row_37 : decode cX9_row 37 = .ok (.if_icmp .ge 21, 3) := by decide +kernel
theorem dX9_row_40 : decode cX9_row 40 = .ok (.aload_n 0, 1) := by decide +kernel
theorem dX9_row_41 : decode cX9_row 41 = .ok (.getfield 47, 3) := by decide +kernel
theorem dX9_row_44 : decode cX9_row 44 = .ok (.bipush 40, 2) := by decide +kernel
theorem dX9_row_46 : decode cX9_row 46 = .ok (.iload_n 1, 1) := by decide +kernel
theorem dX9_row_47 : decode cX9_row 47 = .ok (.imul, 1) := by decide +kernel
theorem dX9_row_48 : decode cX9_row 48 = .ok (.iload_n 3, 1) := by decide +kernel
theorem dX9_row_49 : decode cX9_row 49 = .ok (.iadd, 1) := by decide +kernel
theorem dX9_row_50 : decode cX9_row 50 = .ok (.iconst 0, 1) := by decide +kernel
theorem dX9_row_51 : decode cX9_row 51 = .ok (.iastore, 1) := by decide +kernel
theorem dX9_row_52 : decode cX9_row 52 = .ok (.iinc 3 1, 3) := by decide +kernel
theorem dX9_row_55 : decode cX9_row 55 = .ok (.goto (-21), 3) := by decide +kernel
theorem dX9_row_58 : decode cX9_row 58 = .ok (.iload_n 2, 1) := by decide +kernel
theorem dX9_row_59 : decode cX9_row 59 = .ok (.ireturn, 1) := by decide +kernel
theorem dX9_lay_0 : decode cX9_lay 0 = .ok (.iload_n 1, 1) := by decide +kernel
theorem dX9_lay_1 : decode cX9_lay 1 = .ok (.invokestatic 123, 3) := by decide +kernel
theorem dX9_lay_4 : decode cX9_lay 4 = .ok (.ifCond .ne 5, 3) := by decide +kernel
theorem dX9_lay_7 : decode cX9_lay 7 = .ok (.iconst (-1), 1) := by decide +kernel
theorem dX9_lay_8 : decode cX9_lay 8 = .ok (.ireturn, 1) := by decide +kernel
theorem dX9_lay_9 : decode cX9_lay 9 = .ok (.aload_n 0, 1) := by decide +kernel
theorem dX9_lay_10 : decode cX9_lay 10 = .ok (.getfield 44, 3) := by decide +kernel
theorem dX9_lay_13 : decode cX9_lay 13 = .ok (.iload_n 1, 1) := by decide +kernel
theorem dX9_lay_14 : decode cX9_lay 14 = .ok (.iaload, 1) := by decide +kernel
theorem dX9_lay_15 : decode cX9_lay 15 = .ok (.ifCond .ge 9, 3) := by decide +kernel
theorem dX9_lay_18 : decode cX9_lay 18 = .ok (.aload_n 0, 1) := by decide +kernel
theorem dX9_lay_19 : decode cX9_lay 19 = .ok (.iconst 1, 1) := by decide +kernel
theorem dX9_lay_20 : decode cX9_lay 20 = .ok (.invokevirtual 127, 3) := by decide +kernel
theorem dX9_lay_23 : decode cX9_lay 23 = .ok (.ireturn, 1) := by decide +kernel
theorem dX9_lay_24 : decode cX9_lay 24 = .ok (.iload_n 2, 1) := by decide +kernel
theorem dX9_lay_25 : decode cX9_lay 25 = .ok (.i2l, 1) := by decide +kernel
theorem dX9_lay_26 : decode cX9_lay 26 = .ok (.lconst 0, 1) := by decide +kernel
theorem dX9_lay_27 : decode cX9_lay 27 = .ok (.aload_n 0, 1) := by decide +kernel
theorem dX9_lay_28 : decode cX9_lay 28 = .ok (.getfield 44, 3) := by decide +kernel
theorem dX9_lay_31 : decode cX9_lay 31 = .ok (.iload_n 1, 1) := by decide +kernel
theorem dX9_lay_32 : decode cX9_lay 32 = .ok (.iaload, 1) := by decide +kernel
theorem dX9_lay_33 : decode cX9_lay 33 = .ok (.iconst 1, 1) := by decide +kernel
theorem dX9_lay_34 : decode cX9_lay 34 = .ok (.isub, 1) := by decide +kernel
theorem dX9_lay_35 : decode cX9_lay 35 = .ok (.i2l, 1) := by decide +kernel
theorem dX9_lay_36 : decode cX9_lay 36 = .ok (.invokestatic 114, 3) := by decide +kernel
theorem dX9_lay_39 : decode cX9_lay 39 = .ok (.ifCond .ne 9, 3) := by decide +kernel
theorem dX9_lay_42 : decode cX9_lay 42 = .ok (.aload_n 0, 1) := by decide +kernel
theorem dX9_lay_43 : decode cX9_lay 43 = .ok (.iconst 2, 1) := by decide +kernel
theorem dX9_lay_44 : decode cX9_lay 44 = .ok (.invokevirtual 127, 3) := by decide +kernel
theorem dX9_lay_47 : decode cX9_lay 47 = .ok (.ireturn, 1) := by decide +kernel
theorem dX9_lay_48 : decode cX9_lay 48 = .ok (.aload_n 0, 1) := by decide +kernel
theorem dX9_lay_49 : decode cX9_lay 49 = .ok (.aload_n 0, 1) := by decide +kernel
theorem dX9_lay_50 : decode cX9_lay 50 = .ok (.getfield 47, 3) := by decide +kernel
theorem dX9_lay_53 : decode cX9_lay 53 = .ok (.bipush 40, 2) := by decide +kernel
theorem dX9_lay_55 : decode cX9_lay 55 = .ok (.iload_n 1, 1) := by decide +kernel
theorem dX9_lay_56 : decode cX9_lay 56 = .ok (.imul, 1) := by decide +kernel
theorem dX9_lay_57 : decode cX9_lay 57 = .ok (.iload_n 2, 1) := by decide +kernel
theorem dX9_lay_58 : decode cX9_lay 58 = .ok (.iadd, 1) := by decide +kernel
theorem dX9_lay_59 : decode cX9_lay 59 = .ok (.iaload, 1) := by decide +kernel
theorem dX9_lay_60 : decode cX9_lay 60 = .ok (.putfield 131, 3) := by decide +kernel
theorem dX9_lay_63 : decode cX9_lay 63 = .ok (.aload_n 0, 1) := by decide +kernel
theorem dX9_lay_64 : decode cX9_lay 64 = .ok (.getfield 47, 3) := by decide +kernel
theorem dX9_lay_67 : decode cX9_lay 67 = .ok (.bipush 40, 2) := by decide +kernel
theorem dX9_lay_69 : decode cX9_lay 69 = .ok (.iload_n 1, 1) := by decide +kernel
theorem dX9_lay_70 : decode cX9_lay 70 = .ok (.imul, 1) := by decide +kernel
theorem dX9_lay_71 : decode cX9_lay 71 = .ok (.iload_n 2, 1) := by decide +kernel
theorem dX9_lay_72 : decode cX9_lay 72 = .ok (.iadd, 1) := by decide +kernel
theorem dX9_lay_73 : decode cX9_lay 73 = .ok (.iload_n 3, 1) := by decide +kernel
theorem dX9_lay_74 : decode cX9_lay 74 = .ok (.iastore, 1) := by decide +kernel
theorem dX9_lay_75 : decode cX9_lay 75 = .ok (.iconst 1, 1) := by decide +kernel
theorem dX9_lay_76 : decode cX9_lay 76 = .ok (.ireturn, 1) := by decide +kernel
theorem dX9_at_0 : decode cX9_at 0 = .ok (.iload_n 1, 1) := by decide +kernel
theorem dX9_at_1 : decode cX9_at 1 = .ok (.invokestatic 123, 3) := by decide +kernel
theorem dX9_at_4 : decode cX9_at 4 = .ok (.ifCond .ne 5, 3) := by decide +kernel
theorem dX9_at_7 : decode cX9_at 7 = .ok (.iconst (-1), 1) := by decide +kernel
theorem dX9_at_8 : decode cX9_at 8 = .ok (.ireturn, 1) := by decide +kernel
theorem dX9_at_9 : decode cX9_at 9 = .ok (.aload_n 0, 1) := by decide +kernel
theorem dX9_at_10 : decode cX9_at 10 = .ok (.getfield 44, 3) := by decide +kernel
theorem dX9_at_13 : decode cX9_at 13 = .ok (.iload_n 1, 1) := by decide +kernel
theorem dX9_at_14 : decode cX9_at 14 = .ok (.iaload, 1) := by decide +kernel
theorem dX9_at_15 : decode cX9_at 15 = .ok (.ifCond .ge 9, 3) := by decide +kernel
theorem dX9_at_18 : decode cX9_at 18 = .ok (.aload_n 0, 1) := by decide +kernel
theorem dX9_at_19 : decode cX9_at 19 = .ok (.iconst 1, 1) := by decide +kernel
theorem dX9_at_20 : decode cX9_at 20 = .ok (.invokevirtual 127, 3) := by decide +kernel
theorem dX9_at_23 : decode cX9_at 23 = .ok (.ireturn, 1) := by decide +kernel
theorem dX9_at_24 : decode cX9_at 24 = .ok (.iload_n 2, 1) := by decide +kernel
theorem dX9_at_25 : decode cX9_at 25 = .ok (.i2l, 1) := by decide +kernel
theorem dX9_at_26 : decode cX9_at 26 = .ok (.lconst 0, 1) := by decide +kernel
theorem dX9_at_27 : decode cX9_at 27 = .ok (.aload_n 0, 1) := by decide +kernel
theorem dX9_at_28 : decode cX9_at 28 = .ok (.getfield 44, 3) := by decide +kernel
theorem dX9_at_31 : decode cX9_at 31 = .ok (.iload_n 1, 1) := by decide +kernel
theorem dX9_at_32 : decode cX9_at 32 = .ok (.iaload, 1) := by decide +kernel
theorem dX9_at_33 : decode cX9_at 33 = .ok (.iconst 1, 1) := by decide +kernel
theorem dX9_at_34 : decode cX9_at 34 = .ok (.isub, 1) := by decide +kernel
theorem dX9_at_35 : decode cX9_at 35 = .ok (.i2l, 1) := by decide +kernel
theorem dX9_at_36 : decode cX9_at 36 = .ok (.invokestatic 114, 3) := by decide +kernel
theorem dX9_at_39 : decode cX9_at 39 = .ok (.ifCond .ne 9, 3) := by decide +kernel
theorem dX9_at_42 : decode cX9_at 42 = .ok (.aload_n 0, 1) := by decide +kernel
theorem dX9_at_43 : decode cX9_at 43 = .ok (.iconst 2, 1) := by decide +kernel
theorem dX9_at_44 : decode cX9_at 44 = .ok (.invokevirtual 127, 3) := by decide +kernel
theorem dX9_at_47 : decode cX9_at 47 = .ok (.ireturn, 1) := by decide +kernel
theorem dX9_at_48 : decode cX9_at 48 = .ok (.aload_n 0, 1) := by decide +kernel
theorem dX9_at_49 : decode cX9_at 49 = .ok (.aload_n 0, 1) := by decide +kernel
theorem dX9_at_50 : decode cX9_at 50 = .ok (.getfield 47, 3) := by decide +kernel
theorem dX9_at_53 : decode cX9_at 53 = .ok (.bipush 40, 2) := by decide +kernel
theorem dX9_at_55 : decode cX9_at 55 = .ok (.iload_n 1, 1) := by decide +kernel
theorem dX9_at_56 : decode cX9_at 56 = .ok (.imul, 1) := by decide +kernel
theorem dX9_at_57 : decode cX9_at 57 = .ok (.iload_n 2, 1) := by decide +kernel
theorem dX9_at_58 : decode cX9_at 58 = .ok (.iadd, 1) := by decide +kernel
theorem dX9_at_59 : decode cX9_at 59 = .ok (.iaload, 1) := by decide +kernel
theorem dX9_at_60 : decode cX9_at 60 = .ok (.putfield 131, 3) := by decide +kernel
theorem dX9_at_63 : decode cX9_at 63 = .ok (.iconst 1, 1) := by decide +kernel
theorem dX9_at_64 : decode cX9_at 64 = .ok (.ireturn, 1) := by decide +kernel
theorem dX9_tear_0 : decode cX9_tear 0 = .ok (.iload_n 1, 1) := by decide +kernel
theorem dX9_tear_1 : decode cX9_tear 1 = .ok (.invokestatic 123, 3) := by decide +kernel
theorem dX9_tear_4 : decode cX9_tear 4 = .ok (.ifCond .ne 5, 3) := by decide +kernel
theorem dX9_tear_7 : decode cX9_tear 7 = .ok (.iconst (-1), 1) := by decide +kernel
theorem dX9_tear_8 : decode cX9_tear 8 = .ok (.ireturn, 1) := by decide +kernel
theorem dX9_tear_9 : decode cX9_tear 9 = .ok (.aload_n 0, 1) := by decide +kernel
theorem dX9_tear_10 : decode cX9_tear 10 = .ok (.getfield 44, 3) := by decide +kernel
theorem dX9_tear_13 : decode cX9_tear 13 = .ok (.iload_n 1, 1) := by decide +kernel
theorem dX9_tear_14 : decode cX9_tear 14 = .ok (.iaload, 1) := by decide +kernel
theorem dX9_tear_15 : decode cX9_tear 15 = .ok (.ifCond .ge 9, 3) := by decide +kernel
theorem dX9_tear_18 : decode cX9_tear 18 = .ok (.aload_n 0, 1) := by decide +kernel
theorem dX9_tear_19 : decode cX9_tear 19 = .ok (.iconst 1, 1) := by decide +kernel
theorem dX9_tear_20 : decode cX9_tear 20 = .ok (.invokevirtual 127, 3) := by decide +kernel
theorem dX9_tear_23 : decode cX9_tear 23 = .ok (.ireturn, 1) := by decide +kernel
theorem dX9_tear_24 : decode cX9_tear 24 = .ok (.aload_n 0, 1) := by decide +kernel
theorem dX9_tear_25 : decode cX9_tear 25 = .ok (.getfield 44, 3) := by decide +kernel
theorem dX9_tear_28 : decode cX9_tear 28 = .ok (.iload_n 1, 1) := by decide +kernel
theorem dX9_tear_29 : decode cX9_tear 29 = .ok (.iconst (-1), 1) := by decide +kernel
theorem dX9_tear_30 : decode cX9_tear 30 = .ok (.iastore, 1) := by decide +kernel
theorem dX9_tear_31 : decode cX9_tear 31 = .ok (.iconst 1, 1) := by decide +kernel
theorem dX9_tear_32 : decode cX9_tear 32 = .ok (.ireturn, 1) := by decide +kernel
theorem dX9_copy_0 : decode cX9_copy 0 = .ok (.iload_n 1, 1) := by decide +kernel
theorem dX9_copy_1 : decode cX9_copy 1 = .ok (.invokestatic 123, 3) := by decide +kernel
theorem dX9_copy_4 : decode cX9_copy 4 = .ok (.ifCond .eq 10, 3) := by decide +kernel
theorem dX9_copy_7 : decode cX9_copy 7 = .ok (.iload_n 3, 1) := by decide +kernel
theorem dX9_copy_8 : decode cX9_copy 8 = .ok (.invokestatic 123, 3) := by decide +kernel
theorem dX9_copy_11 : decode cX9_copy 11 = .ok (.ifCond .ne 5, 3) := by decide +kernel
theorem dX9_copy_14 : decode cX9_copy 14 = .ok (.iconst (-1), 1) := by decide +kernel
theorem dX9_copy_15 : decode cX9_copy 15 = .ok (.ireturn, 1) := by decide +kernel
theorem dX9_copy_16 : decode cX9_copy 16 = .ok (.iload 5, 2) := by decide +kernel
theorem dX9_copy_18 : decode cX9_copy 18 = .ok (.ifCond .ge 9, 3) := by decide +kernel
theorem dX9_copy_21 : decode cX9_copy 21 = .ok (.aload_n 0, 1) := by decide +kernel
theorem dX9_copy_22 : decode cX9_copy 22 = .ok (.iconst 5, 1) := by decide +kernel
theorem dX9_copy_23 : decode cX9_copy 23 = .ok (.invokevirtual 127, 3) := by decide +kernel
theorem dX9_copy_26 : decode cX9_copy 26 = .ok (.ireturn, 1) := by decide +kernel
theorem dX9_copy_27 : decode cX9_copy 27 = .ok (.aload_n 0, 1) := by decide +kernel
theorem dX9_copy_28 : decode cX9_copy 28 = .ok (.getfield 44, 3) := by decide +kernel
theorem dX9_copy_31 : decode cX9_copy 31 = .ok (.iload_n 1, 1) := by decide +kernel
theorem dX9_copy_32 : decode cX9_copy 32 = .ok (.iaload, 1) := by decide +kernel
theorem dX9_copy_33 : decode cX9_copy 33 = .ok (.ifCond .lt 12, 3) := by decide +kernel
theorem dX9_copy_36 : decode cX9_copy 36 = .ok (.aload_n 0, 1) := by decide +kernel
theorem dX9_copy_37 : decode cX9_copy 37 = .ok (.getfield 44, 3) := by decide +kernel
theorem dX9_copy_40 : decode cX9_copy 40 = .ok (.iload_n 3, 1) := by decide +kernel
theorem dX9_copy_41 : decode cX9_copy 41 = .ok (.iaload, 1) := by decide +kernel
theorem dX9_copy_42 : decode cX9_copy 42 = .ok (.ifCond .ge 9, 3) := by decide +kernel
theorem dX9_copy_45 : decode cX9_copy 45 = .ok (.aload_n 0, 1) := by decide +kernel
theorem dX9_copy_46 : decode cX9_copy 46 = .ok (.iconst 1, 1) := by decide +kernel
theorem dX9_copy_47 : decode cX9_copy 47 = .ok (.invokevirtual 127, 3) := by decide +kernel
theorem dX9_copy_50 : decode cX9_copy 50 = .ok (.ireturn, 1) := by decide +kernel
theorem dX9_copy_51 : decode cX9_copy 51 = .ok (.iload_n 2, 1) := by decide +kernel
theorem dX9_copy_52 : decode cX9_copy 52 = .ok (.ifCond .lt 35, 3) := by decide +kernel
theorem dX9_copy_55 : decode cX9_copy 55 = .ok (.iload 4, 2) := by decide +kernel
theorem dX9_copy_57 : decode cX9_copy 57 = .ok (.ifCond .lt 30, 3) := by decide +kernel
theorem dX9_copy_60 : decode cX9_copy 60 = .ok (.iload_n 2, 1) := by decide +kernel
theorem dX9_copy_61 : decode cX9_copy 61 = .ok (.aload_n 0, 1) := by decide +kernel
theorem dX9_copy_62 : decode cX9_copy 62 = .ok (.getfield 44, 3) := by decide +kernel
theorem dX9_copy_65 : decode cX9_copy 65 = .ok (.iload_n 1, 1) := by decide +kernel
theorem dX9_copy_66 : decode cX9_copy 66 = .ok (.iaload, 1) := by decide +kernel
theorem dX9_copy_67 : decode cX9_copy 67 = .ok (.iload 5, 2) := by decide +kernel
theorem dX9_copy_69 : decode cX9_copy 69 = .ok (.isub, 1) := by decide +kernel
theorem dX9_copy_70 : decode cX9_copy 70 = .ok (.if_icmp .gt 17, 3) := by decide +kernel
theorem dX9_copy_73 : decode cX9_copy 73 = .ok (.iload 4, 2) := by decide +kernel
theorem dX9_copy_75 : decode cX9_copy 75 = .ok (.aload_n 0, 1) := by decide +kernel
theorem dX9_copy_76 : decode cX9_copy 76 = .ok (.getfield 44, 3) := by decide +kernel
theorem dX9_copy_79 : decode cX9_copy 79 = .ok (.iload_n 3, 1) := by decide +kernel
theorem dX9_copy_80 : decode cX9_copy 80 = .ok (.iaload, 1) := by decide +kernel
theorem dX9_copy_81 : decode cX9_copy 81 = .ok (.iload 5, 2) := by decide +kernel
theorem dX9_copy_83 : decode cX9_copy 83 = .ok (.isub, 1) := by decide +kernel
theorem dX9_copy_84 : decode cX9_copy 84 = .ok (.if_icmp .le 9, 3) := by decide +kernel
theorem dX9_copy_87 : decode cX9_copy 87 = .ok (.aload_n 0, 1) := by decide +kernel
theorem dX9_copy_88 : decode cX9_copy 88 = .ok (.iconst 2, 1) := by decide +kernel
theorem dX9_copy_89 : decode cX9_copy 89 = .ok (.invokevirtual 127, 3) := by decide +kernel
theorem dX9_copy_92 : decode cX9_copy 92 = .ok (.ireturn, 1) := by decide +kernel
theorem dX9_copy_93 : decode cX9_copy 93 = .ok (.iconst 0, 1) := by decide +kernel
theorem dX9_copy_94 : decode cX9_copy 94 = .ok (.istore 6, 2) := by decide +kernel
theorem dX9_copy_96 : decode cX9_copy 96 = .ok (.iload 6, 2) := by decide +kernel
theorem dX9_copy_98 : decode cX9_copy 98 = .ok (.iload 5, 2) := by decide +kernel
theorem dX9_copy_100 : decode cX9_copy 100 = .ok (.if_icmp .ge 30, 3) := by decide +kernel
theorem dX9_copy_103 : decode cX9_copy 103 = .ok (.aload_n 0, 1) := by decide +kernel
theorem dX9_copy_104 : decode cX9_copy 104 = .ok (.getfield 86, 3) := by decide +kernel
theorem dX9_copy_107 : decode cX9_copy 107 = .ok (.iload 6, 2) := by decide +kernel
theorem dX9_copy_109 : decode cX9_copy 109 = .ok (.aload_n 0, 1) := by decide +kernel
theorem dX9_copy_110 : decode cX9_copy 110 = .ok (.getfield 47, 3) := by decide +kernel
theorem dX9_copy_113 : decode cX9_copy 113 = .ok (.bipush 40, 2) := by decide +kernel
theorem dX9_copy_115 : decode cX9_copy 115 = .ok (.iload_n 1, 1) := by decide +kernel
theorem dX9_copy_116 : decode cX9_copy 116 = .ok (.imul, 1) := by decide +kernel
theorem dX9_copy_117 : decode cX9_copy 117 = .ok (.iload_n 2, 1) := by decide +kernel
theorem dX9_copy_118 : decode cX9_copy 118 = .ok (.iadd, 1) := by decide +kernel
theorem dX9_copy_119 : decode cX9_copy 119 = .ok (.iload 6, 2) := by decide +kernel
theorem dX9_copy_121 : decode cX9_copy 121 = .ok (.iadd, 1) := by decide +kernel
theorem dX9_copy_122 : decode cX9_copy 122 = .ok (.iaload, 1) := by decide +kernel
theorem dX9_copy_123 : decode cX9_copy 123 = .ok (.iastore, 1) := by decide +kernel
theorem dX9_copy_124 : decode cX9_copy 124 = .ok (.iinc 6 1, 3) := by decide +kernel
theorem dX9_copy_127 : decode cX9_copy 127 = .ok (.goto (-31), 3) := by decide +kernel
theorem dX9_copy_130 : decode cX9_copy 130 = .ok (.iconst 0, 1) := by decide +kernel
theorem dX9_copy_131 : decode cX9_copy 131 = .ok (.istore 6, 2) := by decide +kernel
theorem dX9_copy_133 : decode cX9_copy 133 = .ok (.iload 6, 2) := by decide +kernel
theorem dX9_copy_135 : decode cX9_copy 135 = .ok (.iload 5, 2) := by decide +kernel
theorem dX9_copy_137 : decode cX9_copy 137 = .ok (.if_icmp .ge 31, 3) := by decide +kernel
theorem dX9_copy_140 : decode cX9_copy 140 = .ok (.aload_n 0, 1) := by decide +kernel
theorem dX9_copy_141 : decode cX9_copy 141 = .ok (.getfield 47, 3) := by decide +kernel
theorem dX9_copy_144 : decode cX9_copy 144 = .ok (.bipush 40, 2) := by decide +kernel
theorem dX9_copy_146 : decode cX9_copy 146 = .ok (.iload_n 3, 1) := by decide +kernel
theorem dX9_copy_147 : decode cX9_copy 147 = .ok (.imul, 1) := by decide +kernel
theorem dX9_copy_148 : decode cX9_copy 148 = .ok (.iload 4, 2) := by decide +kernel
theorem dX9_copy_150 : decode cX9_copy 150 = .ok (.iadd, 1) := by decide +kernel
theorem dX9_copy_151 : decode cX9_copy 151 = .ok (.iload 6, 2) := by decide +kernel
theorem dX9_copy_153 : decode cX9_copy 153 = .ok (.iadd, 1) := by decide +kernel
theorem dX9_copy_154 : decode cX9_copy 154 = .ok (.aload_n 0, 1) := by decide +kernel
theorem dX9_copy_155 : decode cX9_copy 155 = .ok (.getfield 86, 3) := by decide +kernel
theorem dX9_copy_158 : decode cX9_copy 158 = .ok (.iload 6, 2) := by decide +kernel
theorem dX9_copy_160 : decode cX9_copy 160 = .ok (.iaload, 1) := by decide +kernel
theorem dX9_copy_161 : decode cX9_copy 161 = .ok (.iastore, 1) := by decide +kernel
theorem dX9_copy_162 : decode cX9_copy 162 = .ok (.iinc 6 1, 3) := by decide +kernel
theorem dX9_copy_165 : decode cX9_copy 165 = .ok (.goto (-32), 3) := by decide +kernel
theorem dX9_copy_168 : decode cX9_copy 168 = .ok (.iconst 1, 1) := by decide +kernel
theorem dX9_copy_169 : decode cX9_copy 169 = .ok (.ireturn, 1) := by decide +kernel
theorem dX9_mean_0 : decode cX9_mean 0 = .ok (.iload_n 1, 1) := by decide +kernel
theorem dX9_mean_1 : decode cX9_mean 1 = .ok (.invokestatic 123, 3) := by decide +kernel
theorem dX9_mean_4 : decode cX9_mean 4 = .ok (.ifCond .ne 5, 3) := by decide +kernel
theorem dX9_mean_7 : decode cX9_mean 7 = .ok (.iconst (-1), 1) := by decide +kernel
theorem dX9_mean_8 : decode cX9_mean 8 = .ok (.ireturn, 1) := by decide +kernel
theorem dX9_mean_9 : decode cX9_mean 9 = .ok (.aload_n 0, 1) := by decide +kernel
theorem dX9_mean_10 : decode cX9_mean 10 = .ok (.getfield 44, 3) := by decide +kernel
theorem dX9_mean_13 : decode cX9_mean 13 = .ok (.iload_n 1, 1) := by decide +kernel
theorem dX9_mean_14 : decode cX9_mean 14 = .ok (.iaload, 1) := by decide +kernel
theorem dX9_mean_15 : decode cX9_mean 15 = .ok (.ifCond .ge 9, 3) := by decide +kernel
theorem dX9_mean_18 : decode cX9_mean 18 = .ok (.aload_n 0, 1) := by decide +kernel
theorem dX9_mean_19 : decode cX9_mean 19 = .ok (.iconst 1, 1) := by decide +kernel
theorem dX9_mean_20 : decode cX9_mean 20 = .ok (.invokevirtual 127, 3) := by decide +kernel
theorem dX9_mean_23 : decode cX9_mean 23 = .ok (.ireturn, 1) := by decide +kernel
theorem dX9_mean_24 : decode cX9_mean 24 = .ok (.aload_n 0, 1) := by decide +kernel
theorem dX9_mean_25 : decode cX9_mean 25 = .ok (.getfield 44, 3) := by decide +kernel
theorem dX9_mean_28 : decode cX9_mean 28 = .ok (.iload_n 1, 1) := by decide +kernel
theorem dX9_mean_29 : decode cX9_mean 29 = .ok (.iaload, 1) := by decide +kernel
theorem dX9_mean_30 : decode cX9_mean 30 = .ok (.ifCond .ne 9, 3) := by decide +kernel
theorem dX9_mean_33 : decode cX9_mean 33 = .ok (.aload_n 0, 1) := by decide +kernel
theorem dX9_mean_34 : decode cX9_mean 34 = .ok (.iconst 4, 1) := by decide +kernel
theorem dX9_mean_35 : decode cX9_mean 35 = .ok (.invokevirtual 127, 3) := by decide +kernel
theorem dX9_mean_38 : decode cX9_mean 38 = .ok (.ireturn, 1) := by decide +kernel
theorem dX9_mean_39 : decode cX9_mean 39 = .ok (.lconst 0, 1) := by decide +kernel
theorem dX9_mean_40 : decode cX9_mean 40 = .ok (.lstore_n 2, 1) := by decide +kernel
theorem dX9_mean_41 : decode cX9_mean 41 = .ok (.iconst 0, 1) := by decide +kernel
theorem dX9_mean_42 : decode cX9_mean 42 = .ok (.istore 4, 2) := by decide +kernel
theorem dX9_mean_44 : decode cX9_mean 44 = .ok (.iload 4, 2) := by decide +kernel
theorem dX9_mean_46 : decode cX9_mean 46 = .ok (.aload_n 0, 1) := by decide +kernel
theorem dX9_mean_47 : decode cX9_mean 47 = .ok (.getfield 44, 3) := by decide +kernel
theorem dX9_mean_50 : decode cX9_mean 50 = .ok (.iload_n 1, 1) := by decide +kernel
theorem dX9_mean_51 : decode cX9_mean 51 = .ok (.iaload, 1) := by decide +kernel
theorem dX9_mean_52 : decode cX9_mean 52 = .ok (.if_icmp .ge 25, 3) := by decide +kernel
theorem dX9_mean_55 : decode cX9_mean 55 = .ok (.lload_n 2, 1) := by decide +kernel
theorem dX9_mean_56 : decode cX9_mean 56 = .ok (.aload_n 0, 1) := by decide +kernel
theorem dX9_mean_57 : decode cX9_mean 57 = .ok (.getfield 47, 3) := by decide +kernel
theorem dX9_mean_60 : decode cX9_mean 60 = .ok (.bipush 40, 2) := by decide +kernel
theorem dX9_mean_62 : decode cX9_mean 62 = .ok (.iload_n 1, 1) := by decide +kernel
theorem dX9_mean_63 : decode cX9_mean 63 = .ok (.imul, 1) := by decide +kernel
theorem dX9_mean_64 : decode cX9_mean 64 = .ok (.iload 4, 2) := by decide +kernel
theorem dX9_mean_66 : decode cX9_mean 66 = .ok (.iadd, 1) := by decide +kernel
theorem dX9_mean_67 : decode cX9_mean 67 = .ok (.iaload, 1) := by decide +kernel
theorem dX9_mean_68 : decode cX9_mean 68 = .ok (.i2l, 1) := by decide +kernel
theorem dX9_mean_69 : decode cX9_mean 69 = .ok (.ladd, 1) := by decide +kernel
theorem dX9_mean_70 : decode cX9_mean 70 = .ok (.lstore_n 2, 1) := by decide +kernel
theorem dX9_mean_71 : decode cX9_mean 71 = .ok (.iinc 4 1, 3) := by decide +kernel
theorem dX9_mean_74 : decode cX9_mean 74 = .ok (.goto (-30), 3) := by decide +kernel
theorem dX9_mean_77 : decode cX9_mean 77 = .ok (.aload_n 0, 1) := by decide +kernel
theorem dX9_mean_78 : decode cX9_mean 78 = .ok (.lload_n 2, 1) := by decide +kernel
theorem dX9_mean_79 : decode cX9_mean 79 = .ok (.aload_n 0, 1) := by decide +kernel
theorem dX9_mean_80 : decode cX9_mean 80 = .ok (.getfield 44, 3) := by decide +kernel
theorem dX9_mean_83 : decode cX9_mean 83 = .ok (.iload_n 1, 1) := by decide +kernel
theorem dX9_mean_84 : decode cX9_mean 84 = .ok (.iaload, 1) := by decide +kernel
theorem dX9_mean_85 : decode cX9_mean 85 = .ok (.i2l, 1) := by decide +kernel
theorem dX9_mean_86 : decode cX9_mean 86 = .ok (.ldiv, 1) := by decide +kernel
theorem dX9_mean_87 : decode cX9_mean 87 = .ok (.l2i, 1) := by decide +kernel
theorem dX9_mean_88 : decode cX9_mean 88 = .ok (.putfield 131, 3) := by decide +kernel
theorem dX9_mean_91 : decode cX9_mean 91 = .ok (.iconst 1, 1) := by decide +kernel
theorem dX9_mean_92 : decode cX9_mean 92 = .ok (.ireturn, 1) := by decide +kernel
theorem dX9_text_0 : decode cX9_text 0 = .ok (.iload_n 1, 1) := by decide +kernel
theorem dX9_text_1 : decode cX9_text 1 = .ok (.invokestatic 134, 3) := by decide +kernel
theorem dX9_text_4 : decode cX9_text 4 = .ok (.ifCond .eq 9, 3) := by decide +kernel
theorem dX9_text_7 : decode cX9_text 7 = .ok (.iload_n 2, 1) := by decide +kernel
theorem dX9_text_8 : decode cX9_text 8 = .ok (.bipush 60, 2) := by decide +kernel
theorem dX9_text_10 : decode cX9_text 10 = .ok (.if_icmp .le 5, 3) := by decide +kernel
theorem dX9_text_13 : decode cX9_text 13 = .ok (.iconst (-1), 1) := by decide +kernel
theorem dX9_text_14 : decode cX9_text 14 = .ok (.ireturn, 1) := by decide +kernel
theorem dX9_text_15 : decode cX9_text 15 = .ok (.iload_n 2, 1) := by decide +kernel
theorem dX9_text_16 : decode cX9_text 16 = .ok (.ifCond .ge 9, 3) := by decide +kernel
theorem dX9_text_19 : decode cX9_text 19 = .ok (.aload_n 0, 1) := by decide +kernel
theorem dX9_text_20 : decode cX9_text 20 = .ok (.iconst 5, 1) := by decide +kernel
theorem dX9_text_21 : decode cX9_text 21 = .ok (.invokevirtual 127, 3) := by decide +kernel
theorem dX9_text_24 : decode cX9_text 24 = .ok (.ireturn, 1) := by decide +kernel
theorem dX9_text_25 : decode cX9_text 25 = .ok (.aload_n 0, 1) := by decide +kernel
theorem dX9_text_26 : decode cX9_text 26 = .ok (.getfield 50, 3) := by decide +kernel
theorem dX9_text_29 : decode cX9_text 29 = .ok (.iload_n 1, 1) := by decide +kernel
theorem dX9_text_30 : decode cX9_text 30 = .ok (.iload_n 2, 1) := by decide +kernel
theorem dX9_text_31 : decode cX9_text 31 = .ok (.iastore, 1) := by decide +kernel
theorem dX9_text_32 : decode cX9_text 32 = .ok (.iconst 0, 1) := by decide +kernel
theorem dX9_text_33 : decode cX9_text 33 = .ok (.istore_n 3, 1) := by decide +kernel
theorem dX9_text_34 : decode cX9_text 34 = .ok (.iload_n 3, 1) := by decide +kernel
theorem dX9_text_35 : decode cX9_text 35 = .ok (.bipush 60, 2) := by decide +kernel
theorem dX9_text_37 : decode cX9_text 37 = .ok (.if_icmp .ge 22, 3) := by decide +kernel
theorem dX9_text_40 : decode cX9_text 40 = .ok (.aload_n 0, 1) := by decide +kernel
theorem dX9_text_41 : decode cX9_text 41 = .ok (.getfield 53, 3) := by decide +kernel
theorem dX9_text_44 : decode cX9_text 44 = .ok (.bipush 60, 2) := by decide +kernel
theorem dX9_text_46 : decode cX9_text 46 = .ok (.iload_n 1, 1) := by decide +kernel
theorem dX9_text_47 : decode cX9_text 47 = .ok (.imul, 1) := by decide +kernel
theorem dX9_text_48 : decode cX9_text 48 = .ok (.iload_n 3, 1) := by decide +kernel
theorem dX9_text_49 : decode cX9_text 49 = .ok (.iadd, 1) := by decide +kernel
theorem dX9_text_50 : decode cX9_text 50 = .ok (.bipush 32, 2) := by decide +kernel
theorem dX9_text_52 : decode cX9_text 52 = .ok (.iastore, 1) := by decide +kernel
theorem dX9_text_53 : decode cX9_text 53 = .ok (.iinc 3 1, 3) := by decide +kernel
theorem dX9_text_56 : decode cX9_text 56 = .ok (.goto (-22), 3) := by decide +kernel
theorem dX9_text_59 : decode cX9_text 59 = .ok (.iload_n 2, 1) := by decide +kernel
theorem dX9_text_60 : decode cX9_text 60 = .ok (.ireturn, 1) := by decide +kernel
theorem dX9_put_0 : decode cX9_put 0 = .ok (.iload_n 1, 1) := by decide +kernel
theorem dX9_put_1 : decode cX9_put 1 = .ok (.invokestatic 134, 3) := by decide +kernel
theorem dX9_put_4 : decode cX9_put 4 = .ok (.ifCond .ne 5, 3) := by decide +kernel
theorem dX9_put_7 : decode cX9_put 7 = .ok (.iconst (-1), 1) := by decide +kernel
theorem dX9_put_8 : decode cX9_put 8 = .ok (.ireturn, 1) := by decide +kernel
theorem dX9_put_9 : decode cX9_put 9 = .ok (.aload_n 0, 1) := by decide +kernel
theorem dX9_put_10 : decode cX9_put 10 = .ok (.getfield 50, 3) := by decide +kernel
theorem dX9_put_13 : decode cX9_put 13 = .ok (.iload_n 1, 1) := by decide +kernel
theorem dX9_put_14 : decode cX9_put 14 = .ok (.iaload, 1) := by decide +kernel
theorem dX9_put_15 : decode cX9_put 15 = .ok (.ifCond .ge 9, 3) := by decide +kernel
theorem dX9_put_18 : decode cX9_put 18 = .ok (.aload_n 0, 1) := by decide +kernel
theorem dX9_put_19 : decode cX9_put 19 = .ok (.iconst 1, 1) := by decide +kernel
theorem dX9_put_20 : decode cX9_put 20 = .ok (.invokevirtual 127, 3) := by decide +kernel
theorem dX9_put_23 : decode cX9_put 23 = .ok (.ireturn, 1) := by decide +kernel
theorem dX9_put_24 : decode cX9_put 24 = .ok (.iload_n 2, 1) := by decide +kernel
theorem dX9_put_25 : decode cX9_put 25 = .ok (.i2l, 1) := by decide +kernel
theorem dX9_put_26 : decode cX9_put 26 = .ok (.lconst 0, 1) := by decide +kernel
theorem dX9_put_27 : decode cX9_put 27 = .ok (.aload_n 0, 1) := by decide +kernel
theorem dX9_put_28 : decode cX9_put 28 = .ok (.getfield 50, 3) := by decide +kernel
theorem dX9_put_31 : decode cX9_put 31 = .ok (.iload_n 1, 1) := by decide +kernel
theorem dX9_put_32 : decode cX9_put 32 = .ok (.iaload, 1) := by decide +kernel
theorem dX9_put_33 : decode cX9_put 33 = .ok (.iconst 1, 1) := by decide +kernel
theorem dX9_put_34 : decode cX9_put 34 = .ok (.isub, 1) := by decide +kernel
theorem dX9_put_35 : decode cX9_put 35 = .ok (.i2l, 1) := by decide +kernel
theorem dX9_put_36 : decode cX9_put 36 = .ok (.invokestatic 114, 3) := by decide +kernel
theorem dX9_put_39 : decode cX9_put 39 = .ok (.ifCond .ne 9, 3) := by decide +kernel
theorem dX9_put_42 : decode cX9_put 42 = .ok (.aload_n 0, 1) := by decide +kernel
theorem dX9_put_43 : decode cX9_put 43 = .ok (.iconst 2, 1) := by decide +kernel
theorem dX9_put_44 : decode cX9_put 44 = .ok (.invokevirtual 127, 3) := by decide +kernel
theorem dX9_put_47 : decode cX9_put 47 = .ok (.ireturn, 1) := by decide +kernel
theorem dX9_put_48 : decode cX9_put 48 = .ok (.aload_n 0, 1) := by decide +kernel
theorem dX9_put_49 : decode cX9_put 49 = .ok (.getfield 53, 3) := by decide +kernel
theorem dX9_put_52 : decode cX9_put 52 = .ok (.bipush 60, 2) := by decide +kernel
theorem dX9_put_54 : decode cX9_put 54 = .ok (.iload_n 1, 1) := by decide +kernel
theorem dX9_put_55 : decode cX9_put 55 = .ok (.imul, 1) := by decide +kernel
theorem dX9_put_56 : decode cX9_put 56 = .ok (.iload_n 2, 1) := by decide +kernel
theorem dX9_put_57 : decode cX9_put 57 = .ok (.iadd, 1) := by decide +kernel
theorem dX9_put_58 : decode cX9_put 58 = .ok (.iaload, 1) := by decide +kernel
theorem dX9_put_59 : decode cX9_put 59 = .ok (.istore 4, 2) := by decide +kernel
theorem dX9_put_61 : decode cX9_put 61 = .ok (.aload_n 0, 1) := by decide +kernel
theorem dX9_put_62 : decode cX9_put 62 = .ok (.getfield 53, 3) := by decide +kernel
theorem dX9_put_65 : decode cX9_put 65 = .ok (.bipush 60, 2) := by decide +kernel
theorem dX9_put_67 : decode cX9_put 67 = .ok (.iload_n 1, 1) := by decide +kernel
theorem dX9_put_68 : decode cX9_put 68 = .ok (.imul, 1) := by decide +kernel
theorem dX9_put_69 : decode cX9_put 69 = .ok (.iload_n 2, 1) := by decide +kernel
theorem dX9_put_70 : decode cX9_put 70 = .ok (.iadd, 1) := by decide +kernel
theorem dX9_put_71 : decode cX9_put 71 = .ok (.iload_n 3, 1) := by decide +kernel
theorem dX9_put_72 : decode cX9_put 72 = .ok (.i2b, 1) := by decide +kernel
theorem dX9_put_73 : decode cX9_put 73 = .ok (.iastore, 1) := by decide +kernel
theorem dX9_put_74 : decode cX9_put 74 = .ok (.sipush 1000, 3) := by decide +kernel
theorem dX9_put_77 : decode cX9_put 77 = .ok (.iload 4, 2) := by decide +kernel
theorem dX9_put_79 : decode cX9_put 79 = .ok (.iadd, 1) := by decide +kernel
theorem dX9_put_80 : decode cX9_put 80 = .ok (.ireturn, 1) := by decide +kernel
theorem dX9_byteOf_0 : decode cX9_byteOf 0 = .ok (.aload_n 0, 1) := by decide +kernel
theorem dX9_byteOf_1 : decode cX9_byteOf 1 = .ok (.getfield 137, 3) := by decide +kernel
theorem dX9_byteOf_4 : decode cX9_byteOf 4 = .ok (.aload_n 0, 1) := by decide +kernel
theorem dX9_byteOf_5 : decode cX9_byteOf 5 = .ok (.getfield 50, 3) := by decide +kernel
theorem dX9_byteOf_8 : decode cX9_byteOf 8 = .ok (.iload_n 1, 1) := by decide +kernel
theorem dX9_byteOf_9 : decode cX9_byteOf 9 = .ok (.iaload, 1) := by decide +kernel
theorem dX9_byteOf_10 : decode cX9_byteOf 10 = .ok (.if_icmp .ge 20, 3) := by decide +kernel
theorem dX9_byteOf_13 : decode cX9_byteOf 13 = .ok (.aload_n 0, 1) := by decide +kernel
theorem dX9_byteOf_14 : decode cX9_byteOf 14 = .ok (.getfield 53, 3) := by decide +kernel
theorem dX9_byteOf_17 : decode cX9_byteOf 17 = .ok (.bipush 60, 2) := by decide +kernel
theorem dX9_byteOf_19 : decode cX9_byteOf 19 = .ok (.iload_n 1, 1) := by decide +kernel
theorem dX9_byteOf_20 : decode cX9_byteOf 20 = .ok (.imul, 1) := by decide +kernel
theorem dX9_byteOf_21 : decode cX9_byteOf 21 = .ok (.aload_n 0, 1) := by decide +kernel
theorem dX9_byteOf_22 : decode cX9_byteOf 22 = .ok (.getfield 137, 3) := by decide +kernel
theorem dX9_byteOf_25 : decode cX9_byteOf 25 = .ok (.iadd, 1) := by decide +kernel
theorem dX9_byteOf_26 : decode cX9_byteOf 26 = .ok (.iaload, 1) := by decide +kernel
theorem dX9_byteOf_27 : decode cX9_byteOf 27 = .ok (.goto 6, 3) := by decide +kernel
theorem dX9_byteOf_30 : decode cX9_byteOf 30 = .ok (.sipush (-1000), 3) := by decide +kernel
theorem dX9_byteOf_33 : decode cX9_byteOf 33 = .ok (.ireturn, 1) := by decide +kernel
theorem dX9_skip_0 : decode cX9_skip 0 = .ok (.aload_n 0, 1) := by decide +kernel
theorem dX9_skip_1 : decode cX9_skip 1 = .ok (.iload_n 1, 1) := by decide +kernel
theorem dX9_skip_2 : decode cX9_skip 2 = .ok (.invokevirtual 140, 3) := by decide +kernel
theorem dX9_skip_5 : decode cX9_skip 5 = .ok (.bipush 32, 2) := by decide +kernel
theorem dX9_skip_7 : decode cX9_skip 7 = .ok (.if_icmp .ne 16, 3) := by decide +kernel
theorem dX9_skip_10 : decode cX9_skip 10 = .ok (.aload_n 0, 1) := by decide +kernel
theorem dX9_skip_11 : decode cX9_skip 11 = .ok (.dup, 1) := by decide +kernel
theorem dX9_skip_12 : decode cX9_skip 12 = .ok (.getfield 137, 3) := by decide +kernel
theorem dX9_skip_15 : decode cX9_skip 15 = .ok (.iconst 1, 1) := by decide +kernel
theorem dX9_skip_16 : decode cX9_skip 16 = .ok (.iadd, 1) := by decide +kernel
theorem dX9_skip_17 : decode cX9_skip 17 = .ok (.putfield 137, 3) := by decide +kernel
theorem dX9_skip_20 : decode cX9_skip 20 = .ok (.goto (-20), 3) := by decide +kernel
theorem dX9_skip_23 : decode cX9_skip 23 = .ok (.return_, 1) := by decide +kernel
theorem dX9_figure_0 : decode cX9_figure 0 = .ok (.aload_n 0, 1) := by decide +kernel
theorem dX9_figure_1 : decode cX9_figure 1 = .ok (.iload_n 1, 1) := by decide +kernel
theorem dX9_figure_2 : decode cX9_figure 2 = .ok (.invokevirtual 140, 3) := by decide +kernel
theorem dX9_figure_5 : decode cX9_figure 5 = .ok (.istore 4, 2) := by decide +kernel
theorem dX9_figure_7 : decode cX9_figure 7 = .ok (.aload_n 0, 1) := by decide +kernel
theorem dX9_figure_8 : decode cX9_figure 8 = .ok (.getfield 143, 3) := by decide +kernel
theorem dX9_figure_11 : decode cX9_figure 11 = .ok (.ifCond .lt 5, 3) := by decide +kernel
theorem dX9_figure_14 : decode cX9_figure 14 = .ok (.iconst 0, 1) := by decide +kernel
theorem dX9_figure_15 : decode cX9_figure 15 = .ok (.ireturn, 1) := by decide +kernel
theorem dX9_figure_16 : decode cX9_figure 16 = .ok (.iload 4, 2) := by decide +kernel
theorem dX9_figure_18 : decode cX9_figure 18 = .ok (.i2l, 1) := by decide +kernel
theorem dX9_figure_19 : decode cX9_figure 19 = .ok (.bipush 48, 2) := by decide +kernel
theorem dX9_figure_21 : decode cX9_figure 21 = .ok (.iload_n 2, 1) := by decide +kernel
theorem dX9_figure_22 : decode cX9_figure 22 = .ok (.iadd, 1) := by decide +kernel
theorem dX9_figure_23 : decode cX9_figure 23 = .ok (.i2l, 1) := by decide +kernel
theorem dX9_figure_24 : decode cX9_figure 24 = .ok (.bipush 48, 2) := by decide +kernel
theorem dX9_figure_26 : decode cX9_figure 26 = .ok (.iload_n 3, 1) := by decide +kernel
theorem dX9_figure_27 : decode cX9_figure 27 = .ok (.iadd, 1) := by decide +kernel
theorem dX9_figure_28 : decode cX9_figure 28 = .ok (.i2l, 1) := by decide +kernel
theorem dX9_figure_29 : decode cX9_figure 29 = .ok (.invokestatic 114, 3) := by decide +kernel
theorem dX9_figure_32 : decode cX9_figure 32 = .ok (.ifCond .ne 13, 3) := by decide +kernel
theorem dX9_figure_35 : decode cX9_figure 35 = .ok (.aload_n 0, 1) := by decide +kernel
theorem dX9_figure_36 : decode cX9_figure 36 = .ok (.aload_n 0, 1) := by decide +kernel
theorem dX9_figure_37 : decode cX9_figure 37 = .ok (.getfield 137, 3) := by decide +kernel
theorem dX9_figure_40 : decode cX9_figure 40 = .ok (.putfield 143, 3) := by decide +kernel
theorem dX9_figure_43 : decode cX9_figure 43 = .ok (.iconst 0, 1) := by decide +kernel
theorem dX9_figure_44 : decode cX9_figure 44 = .ok (.ireturn, 1) := by decide +kernel
theorem dX9_figure_45 : decode cX9_figure 45 = .ok (.aload_n 0, 1) := by decide +kernel
theorem dX9_figure_46 : decode cX9_figure 46 = .ok (.dup, 1) := by decide +kernel
theorem dX9_figure_47 : decode cX9_figure 47 = .ok (.getfield 137, 3) := by decide +kernel
theorem dX9_figure_50 : decode cX9_figure 50 = .ok (.iconst 1, 1) := by decide +kernel
theorem dX9_figure_51 : decode cX9_figure 51 = .ok (.iadd, 1) := by decide +kernel
theorem dX9_figure_52 : decode cX9_figure 52 = .ok (.putfield 137, 3) := by decide +kernel
theorem dX9_figure_55 : decode cX9_figure 55 = .ok (.iload 4, 2) := by decide +kernel
theorem dX9_figure_57 : decode cX9_figure 57 = .ok (.bipush 48, 2) := by decide +kernel
theorem dX9_figure_59 : decode cX9_figure 59 = .ok (.isub, 1) := by decide +kernel
theorem dX9_figure_60 : decode cX9_figure 60 = .ok (.ireturn, 1) := by decide +kernel
theorem dX9_kindOf_0 : decode cX9_kindOf 0 = .ok (.iload_n 0, 1) := by decide +kernel
theorem dX9_kindOf_1 : decode cX9_kindOf 1 = .ok (.bipush 111, 2) := by decide +kernel
theorem dX9_kindOf_3 : decode cX9_kindOf 3 = .ok (.if_icmp .ne 7, 3) := by decide +kernel
theorem dX9_kindOf_6 : decode cX9_kindOf 6 = .ok (.iconst 0, 1) := by decide +kernel
theorem dX9_kindOf_7 : decode cX9_kindOf 7 = .ok (.goto 54, 3) := by decide +kernel
theorem dX9_kindOf_10 : decode cX9_kindOf 10 = .ok (.iload_n 0, 1) := by decide +kernel
theorem dX9_kindOf_11 : decode cX9_kindOf 11 = .ok (.bipush 103, 2) := by decide +kernel
theorem dX9_kindOf_13 : decode cX9_kindOf 13 = .ok (.if_icmp .ne 7, 3) := by decide +kernel
theorem dX9_kindOf_16 : decode cX9_kindOf 16 = .ok (.iconst 1, 1) := by decide +kernel
theorem dX9_kindOf_17 : decode cX9_kindOf 17 = .ok (.goto 44, 3) := by decide +kernel
theorem dX9_kindOf_20 : decode cX9_kindOf 20 = .ok (.iload_n 0, 1) := by decide +kernel
theorem dX9_kindOf_21 : decode cX9_kindOf 21 = .ok (.bipush 115, 2) := by decide +kernel
theorem dX9_kindOf_23 : decode cX9_kindOf 23 = .ok (.if_icmp .ne 7, 3) := by decide +kernel
theorem dX9_kindOf_26 : decode cX9_kindOf 26 = .ok (.iconst 2, 1) := by decide +kernel
theorem dX9_kindOf_27 : decode cX9_kindOf 27 = .ok (.goto 34, 3) := by decide +kernel
theorem dX9_kindOf_30 : decode cX9_kindOf 30 = .ok (.iload_n 0, 1) := by decide +kernel
theorem dX9_kindOf_31 : decode cX9_kindOf 31 = .ok (.bipush 99, 2) := by decide +kernel
theorem dX9_kindOf_33 : decode cX9_kindOf 33 = .ok (.if_icmp .ne 7, 3) := by decide +kernel
theorem dX9_kindOf_36 : decode cX9_kindOf 36 = .ok (.iconst 3, 1) := by decide +kernel
theorem dX9_kindOf_37 : decode cX9_kindOf 37 = .ok (.goto 24, 3) := by decide +kernel
theorem dX9_kindOf_40 : decode cX9_kindOf 40 = .ok (.iload_n 0, 1) := by decide +kernel
theorem dX9_kindOf_41 : decode cX9_kindOf 41 = .ok (.bipush 112, 2) := by decide +kernel
theorem dX9_kindOf_43 : decode cX9_kindOf 43 = .ok (.if_icmp .ne 7, 3) := by decide +kernel
theorem dX9_kindOf_46 : decode cX9_kindOf 46 = .ok (.iconst 4, 1) := by decide +kernel
theorem dX9_kindOf_47 : decode cX9_kindOf 47 = .ok (.goto 14, 3) := by decide +kernel
theorem dX9_kindOf_50 : decode cX9_kindOf 50 = .ok (.iload_n 0, 1) := by decide +kernel
theorem dX9_kindOf_51 : decode cX9_kindOf 51 = .ok (.bipush 107, 2) := by decide +kernel
theorem dX9_kindOf_53 : decode cX9_kindOf 53 = .ok (.if_icmp .ne 7, 3) := by decide +kernel
theorem dX9_kindOf_56 : decode cX9_kindOf 56 = .ok (.iconst 5, 1) := by decide +kernel
theorem dX9_kindOf_57 : decode cX9_kindOf 57 = .ok (.goto 4, 3) := by decide +kernel
theorem dX9_kindOf_60 : decode cX9_kindOf 60 = .ok (.iconst (-1), 1) := by decide +kernel
theorem dX9_kindOf_61 : decode cX9_kindOf 61 = .ok (.ireturn, 1) := by decide +kernel
theorem dX9_readOne_0 : decode cX9_readOne 0 = .ok (.aload_n 0, 1) := by decide +kernel
theorem dX9_readOne_1 : decode cX9_readOne 1 = .ok (.iload_n 1, 1) := by decide +kernel
theorem dX9_readOne_2 : decode cX9_readOne 2 = .ok (.invokevirtual 140, 3) := by decide +kernel
theorem dX9_readOne_5 : decode cX9_readOne 5 = .ok (.invokestatic 146, 3) := by decide +kernel
theorem dX9_readOne_8 : decode cX9_readOne 8 = .ok (.istore_n 2, 1) := by decide +kernel
theorem dX9_readOne_9 : decode cX9_readOne 9 = .ok (.iload_n 2, 1) := by decide +kernel
theorem dX9_readOne_10 : decode cX9_readOne 10 = .ok (.ifCond .lt 12, 3) := by decide +kernel
theorem dX9_readOne_13 : decode cX9_readOne 13 = .ok (.aload_n 0, 1) := by decide +kernel
theorem dX9_readOne_14 : decode cX9_readOne 14 = .ok (.getfield 149, 3) := by decide +kernel
theorem dX9_readOne_17 : decode cX9_readOne 17 = .ok (.bipush 7, 2) := by decide +kernel
theorem dX9_readOne_19 : decode cX9_readOne 19 = .ok (.if_icmp .ne 12, 3) := by decide +kernel
theorem dX9_readOne_22 : decode cX9_readOne 22 = .ok (.aload_n 0, 1) := by decide +kernel
theorem dX9_readOne_23 : decode cX9_readOne 23 = .ok (.aload_n 0, 1) := by decide +kernel
theorem dX9_readOne_24 : decode cX9_readOne 24 = .ok (.getfield 137, 3) := by decide +kernel
theorem dX9_readOne_27 : decode cX9_readOne 27 = .ok (.putfield 143, 3) := by decide +kernel
theorem dX9_readOne_30 : decode cX9_readOne 30 = .ok (.return_, 1) := by decide +kernel
theorem dX9_readOne_31 : decode cX9_readOne 31 = .ok (.aload_n 0, 1) := by decide +kernel
theorem dX9_readOne_32 : decode cX9_readOne 32 = .ok (.dup, 1) := by decide +kernel
theorem dX9_readOne_33 : decode cX9_readOne 33 = .ok (.getfield 137, 3) := by decide +kernel
theorem dX9_readOne_36 : decode cX9_readOne 36 = .ok (.iconst 1, 1) := by decide +kernel
theorem dX9_readOne_37 : decode cX9_readOne 37 = .ok (.iadd, 1) := by decide +kernel
theorem dX9_readOne_38 : decode cX9_readOne 38 = .ok (.putfield 137, 3) := by decide +kernel
theorem dX9_readOne_41 : decode cX9_readOne 41 = .ok (.aload_n 0, 1) := by decide +kernel
theorem dX9_readOne_42 : decode cX9_readOne 42 = .ok (.getfield 89, 3) := by decide +kernel
theorem dX9_readOne_45 : decode cX9_readOne 45 = .ok (.aload_n 0, 1) := by decide +kernel
theorem dX9_readOne_46 : decode cX9_readOne 46 = .ok (.getfield 149, 3) := by decide +kernel
theorem dX9_readOne_49 : decode cX9_readOne 49 = .ok (.iload_n 2, 1) := by decide +kernel
theorem dX9_readOne_50 : decode cX9_readOne 50 = .ok (.iastore, 1) := by decide +kernel
theorem dX9_readOne_51 : decode cX9_readOne 51 = .ok (.aload_n 0, 1) := by decide +kernel
theorem dX9_readOne_52 : decode cX9_readOne 52 = .ok (.getfield 92, 3) := by decide +kernel
theorem dX9_readOne_55 : decode cX9_readOne 55 = .ok (.aload_n 0, 1) := by decide +kernel
theorem dX9_readOne_56 : decode cX9_readOne 56 = .ok (.getfield 149, 3) := by decide +kernel
theorem dX9_readOne_59 : decode cX9_readOne 59 = .ok (.aload_n 0, 1) := by decide +kernel
theorem dX9_readOne_60 : decode cX9_readOne 60 = .ok (.iload_n 1, 1) := by decide +kernel
theorem dX9_readOne_61 : decode cX9_readOne 61 = .ok (.iconst 1, 1) := by decide +kernel
theorem dX9_readOne_62 : decode cX9_readOne 62 = .ok (.bipush 8, 2) := by decide +kernel
theorem dX9_readOne_64 : decode cX9_readOne 64 = .ok (.invokevirtual 152, 3) := by decide +kernel
theorem dX9_readOne_67 : decode cX9_readOne 67 = .ok (.iastore, 1) := by decide +kernel
theorem dX9_readOne_68 : decode cX9_readOne 68 = .ok (.iconst 0, 1) := by decide +kernel
theorem dX9_readOne_69 : decode cX9_readOne 69 = .ok (.istore_n 3, 1) := by decide +kernel
theorem dX9_readOne_70 : decode cX9_readOne 70 = .ok (.iconst 0, 1) := by decide +kernel
theorem dX9_readOne_71 : decode cX9_readOne 71 = .ok (.istore 4, 2) := by decide +kernel
theorem dX9_readOne_73 : decode cX9_readOne 73 = .ok (.iload 4, 2) := by decide +kernel
theorem dX9_readOne_75 : decode cX9_readOne 75 = .ok (.iconst 3, 1) := by decide +kernel
theorem dX9_readOne_76 : decode cX9_readOne 76 = .ok (.if_icmp .ge 23, 3) := by decide +kernel
theorem dX9_readOne_79 : decode cX9_readOne 79 = .ok (.bipush 10, 2) := by decide +kernel
theorem dX9_readOne_81 : decode cX9_readOne 81 = .ok (.iload_n 3, 1) := by decide +kernel
theorem dX9_readOne_82 : decode cX9_readOne 82 = .ok (.imul, 1) := by decide +kernel
theorem dX9_readOne_83 : decode cX9_readOne 83 = .ok (.aload_n 0, 1) := by decide +kernel
theorem dX9_readOne_84 : decode cX9_readOne 84 = .ok (.iload_n 1, 1) := by decide +kernel
theorem dX9_readOne_85 : decode cX9_readOne 85 = .ok (.iconst 0, 1) := by decide +kernel
theorem dX9_readOne_86 : decode cX9_readOne 86 = .ok (.bipush 9, 2) := by decide +kernel
theorem dX9_readOne_88 : decode cX9_readOne 88 = .ok (.invokevirtual 152, 3) := by decide +kernel
theorem dX9_readOne_91 : decode cX9_readOne 91 = .ok (.iadd, 1) := by decide +kernel
theorem dX9_readOne_92 : decode cX9_readOne 92 = .ok (.istore_n 3, 1) := by decide +kernel
theorem dX9_readOne_93 : decode cX9_readOne 93 = .ok (.iinc 4 1, 3) := by decide +kernel
theorem dX9_readOne_96 : decode cX9_readOne 96 = .ok (.goto (-23), 3) := by decide +kernel
theorem dX9_readOne_99 : decode cX9_readOne 99 = .ok (.aload_n 0, 1) := by decide +kernel
theorem dX9_readOne_100 : decode cX9_readOne 100 = .ok (.getfield 95, 3) := by decide +kernel
theorem dX9_readOne_103 : decode cX9_readOne 103 = .ok (.aload_n 0, 1) := by decide +kernel
theorem dX9_readOne_104 : decode cX9_readOne 104 = .ok (.getfield 149, 3) := by decide +kernel
theorem dX9_readOne_107 : decode cX9_readOne 107 = .ok (.iload_n 3, 1) := by decide +kernel
theorem dX9_readOne_108 : decode cX9_readOne 108 = .ok (.iastore, 1) := by decide +kernel
theorem dX9_readOne_109 : decode cX9_readOne 109 = .ok (.aload_n 0, 1) := by decide +kernel
theorem dX9_readOne_110 : decode cX9_readOne 110 = .ok (.dup, 1) := by decide +kernel
theorem dX9_readOne_111 : decode cX9_readOne 111 = .ok (.getfield 149, 3) := by decide +kernel
theorem dX9_readOne_114 : decode cX9_readOne 114 = .ok (.iconst 1, 1) := by decide +kernel
theorem dX9_readOne_115 : decode cX9_readOne 115 = .ok (.iadd, 1) := by decide +kernel
theorem dX9_readOne_116 : decode cX9_readOne 116 = .ok (.putfield 149, 3) := by decide +kernel
theorem dX9_readOne_119 : decode cX9_readOne 119 = .ok (.return_, 1) := by decide +kernel
theorem dX9_readVillage_0 : decode cX9_readVillage 0 = .ok (.aload_n 0, 1) := by decide +kernel
theorem dX9_readVillage_1 : decode cX9_readVillage 1 = .ok (.iconst 0, 1) := by decide +kernel
theorem dX9_readVillage_2 : decode cX9_readVillage 2 = .ok (.putfield 137, 3) := by decide +kernel
theorem dX9_readVillage_5 : decode cX9_readVillage 5 = .ok (.aload_n 0, 1) := by decide +kernel
theorem dX9_readVillage_6 : decode cX9_readVillage 6 = .ok (.iconst (-1), 1) := by decide +kernel
theorem dX9_readVillage_7 : decode cX9_readVillage 7 = .ok (.putfield 143, 3) := by decide +kernel
theorem dX9_readVillage_10 : decode cX9_readVillage 10 = .ok (.aload_n 0, 1) := by decide +kernel
theorem dX9_readVillage_11 : decode cX9_readVillage 11 = .ok (.iconst 0, 1) := by decide +kernel
theorem dX9_readVillage_12 : decode cX9_readVillage 12 = .ok (.putfield 149, 3) := by decide +kernel
theorem dX9_readVillage_15 : decode cX9_readVillage 15 = .ok (.aload_n 0, 1) := by decide +kernel
theorem dX9_readVillage_16 : decode cX9_readVillage 16 = .ok (.iload_n 1, 1) := by decide +kernel
theorem dX9_readVillage_17 : decode cX9_readVillage 17 = .ok (.invokevirtual 156, 3) := by decide +kernel
theorem dX9_readVillage_20 : decode cX9_readVillage 20 = .ok (.aload_n 0, 1) := by decide +kernel
theorem dX9_readVillage_21 : decode cX9_readVillage 21 = .ok (.getfield 143, 3) := by decide +kernel
theorem dX9_readVillage_24 : decode cX9_readVillage 24 = .ok (.ifCond .ge 29, 3) := by decide +kernel
theorem dX9_readVillage_27 : decode cX9_readVillage 27 = .ok (.aload_n 0, 1) := by decide +kernel
theorem dX9_readVillage_28 : decode cX9_readVillage 28 = .ok (.getfield 137, 3) := by decide +kernel
theorem dX9_readVillage_31 : decode cX9_readVillage 31 = .ok (.aload_n 0, 1) := by decide +kernel
theorem dX9_readVillage_32 : decode cX9_readVillage 32 = .ok (.getfield 50, 3) := by decide +kernel
theorem dX9_readVillage_35 : decode cX9_readVillage 35 = .ok (.iload_n 1, 1) := by decide +kernel
theorem dX9_readVillage_36 : decode cX9_readVillage 36 = .ok (.iaload, 1) := by decide +kernel
theorem dX9_readVillage_37 : decode cX9_readVillage 37 = .ok (.if_icmp .ge 16, 3) := by decide +kernel
theorem dX9_readVillage_40 : decode cX9_readVillage 40 = .ok (.aload_n 0, 1) := by decide +kernel
theorem dX9_readVillage_41 : decode cX9_readVillage 41 = .ok (.iload_n 1, 1) := by decide +kernel
theorem dX9_readVillage_42 : decode cX9_readVillage 42 = .ok (.invokevirtual 160, 3) := by decide +kernel
theorem dX9_readVillage_45 : decode cX9_readVillage 45 = .ok (.aload_n 0, 1) := by decide +kernel
theorem dX9_readVillage_46 : decode cX9_readVillage 46 = .ok (.iload_n 1, 1) := by decide +kernel
theorem dX9_readVillage_47 : decode cX9_readVillage 47 = .ok (.invokevirtual 156, 3) := by decide +kernel
theorem dX9_readVillage_50 : decode cX9_readVillage 50 = .ok (.goto (-30), 3) := by decide +kernel
theorem dX9_readVillage_53 : decode cX9_readVillage 53 = .ok (.return_, 1) := by decide +kernel
theorem dX9_fault_0 : decode cX9_fault 0 = .ok (.iload_n 1, 1) := by decide +kernel
theorem dX9_fault_1 : decode cX9_fault 1 = .ok (.invokestatic 134, 3) := by decide +kernel
theorem dX9_fault_4 : decode cX9_fault 4 = .ok (.ifCond .ne 5, 3) := by decide +kernel
theorem dX9_fault_7 : decode cX9_fault 7 = .ok (.iconst (-1), 1) := by decide +kernel
theorem dX9_fault_8 : decode cX9_fault 8 = .ok (.ireturn, 1) := by decide +kernel
theorem dX9_fault_9 : decode cX9_fault 9 = .ok (.aload_n 0, 1) := by decide +kernel
theorem dX9_fault_10 : decode cX9_fault 10 = .ok (.getfield 50, 3) := by decide +kernel
theorem dX9_fault_13 : decode cX9_fault 13 = .ok (.iload_n 1, 1) := by decide +kernel
theorem dX9_fault_14 : decode cX9_fault 14 = .ok (.iaload, 1) := by decide +kernel
theorem dX9_fault_15 : decode cX9_fault 15 = .ok (.ifCond .ge 9, 3) := by decide +kernel
theorem dX9_fault_18 : decode cX9_fault 18 = .ok (.aload_n 0, 1) := by decide +kernel
theorem dX9_fault_19 : decode cX9_fault 19 = .ok (.iconst 1, 1) := by decide +kernel
theorem dX9_fault_20 : decode cX9_fault 20 = .ok (.invokevirtual 127, 3) := by decide +kernel
theorem dX9_fault_23 : decode cX9_fault 23 = .ok (.ireturn, 1) := by decide +kernel
theorem dX9_fault_24 : decode cX9_fault 24 = .ok (.aload_n 0, 1) := by decide +kernel
theorem dX9_fault_25 : decode cX9_fault 25 = .ok (.iload_n 1, 1) := by decide +kernel
theorem dX9_fault_26 : decode cX9_fault 26 = .ok (.invokevirtual 163, 3) := by decide +kernel
theorem dX9_fault_29 : decode cX9_fault 29 = .ok (.aload_n 0, 1) := by decide +kernel
theorem dX9_fault_30 : decode cX9_fault 30 = .ok (.getfield 143, 3) := by decide +kernel
theorem dX9_fault_33 : decode cX9_fault 33 = .ok (.ifCond .ge 8, 3) := by decide +kernel
theorem dX9_fault_36 : decode cX9_fault 36 = .ok (.bipush (-9), 2) := by decide +kernel
theorem dX9_fault_38 : decode cX9_fault 38 = .ok (.goto 7, 3) := by decide +kernel
theorem dX9_fault_41 : decode cX9_fault 41 = .ok (.aload_n 0, 1) := by decide +kernel
theorem dX9_fault_42 : decode cX9_fault 42 = .ok (.getfield 143, 3) := by decide +kernel
theorem dX9_fault_45 : decode cX9_fault 45 = .ok (.ireturn, 1) := by decide +kernel
theorem dX9_village_0 : decode cX9_village 0 = .ok (.iload_n 1, 1) := by decide +kernel
theorem dX9_village_1 : decode cX9_village 1 = .ok (.invokestatic 134, 3) := by decide +kernel
theorem dX9_village_4 : decode cX9_village 4 = .ok (.ifCond .ne 5, 3) := by decide +kernel
theorem dX9_village_7 : decode cX9_village 7 = .ok (.iconst (-1), 1) := by decide +kernel
theorem dX9_village_8 : decode cX9_village 8 = .ok (.ireturn, 1) := by decide +kernel
theorem dX9_village_9 : decode cX9_village 9 = .ok (.aload_n 0, 1) := by decide +kernel
theorem dX9_village_10 : decode cX9_village 10 = .ok (.getfield 50, 3) := by decide +kernel
theorem dX9_village_13 : decode cX9_village 13 = .ok (.iload_n 1, 1) := by decide +kernel
theorem dX9_village_14 : decode cX9_village 14 = .ok (.iaload, 1) := by decide +kernel
theorem dX9_village_15 : decode cX9_village 15 = .ok (.ifCond .ge 9, 3) := by decide +kernel
theorem dX9_village_18 : decode cX9_village 18 = .ok (.aload_n 0, 1) := by decide +kernel
theorem dX9_village_19 : decode cX9_village 19 = .ok (.iconst 1, 1) := by decide +kernel
theorem dX9_village_20 : decode cX9_village 20 = .ok (.invokevirtual 127, 3) := by decide +kernel
theorem dX9_village_23 : decode cX9_village 23 = .ok (.ireturn, 1) := by decide +kernel
theorem dX9_village_24 : decode cX9_village 24 = .ok (.aload_n 0, 1) := by decide +kernel
theorem dX9_village_25 : decode cX9_village 25 = .ok (.iload_n 1, 1) := by decide +kernel
theorem dX9_village_26 : decode cX9_village 26 = .ok (.invokevirtual 163, 3) := by decide +kernel
theorem dX9_village_29 : decode cX9_village 29 = .ok (.aload_n 0, 1) := by decide +kernel
theorem dX9_village_30 : decode cX9_village 30 = .ok (.getfield 143, 3) := by decide +kernel
theorem dX9_village_33 : decode cX9_village 33 = .ok (.ifCond .lt 6, 3) := by decide +kernel
theorem dX9_village_36 : decode cX9_village 36 = .ok (.bipush (-4), 2) := by decide +kernel
theorem dX9_village_38 : decode cX9_village 38 = .ok (.ireturn, 1) := by decide +kernel
theorem dX9_village_39 : decode cX9_village 39 = .ok (.aload_n 0, 1) := by decide +kernel
theorem dX9_village_40 : decode cX9_village 40 = .ok (.aload_n 0, 1) := by decide +kernel
theorem dX9_village_41 : decode cX9_village 41 = .ok (.getfield 149, 3) := by decide +kernel
theorem dX9_village_44 : decode cX9_village 44 = .ok (.putfield 120, 3) := by decide +kernel
theorem dX9_village_47 : decode cX9_village 47 = .ok (.aload_n 0, 1) := by decide +kernel
theorem dX9_village_48 : decode cX9_village 48 = .ok (.iconst 0, 1) := by decide +kernel
theorem dX9_village_49 : decode cX9_village 49 = .ok (.putfield 166, 3) := by decide +kernel
theorem dX9_village_52 : decode cX9_village 52 = .ok (.aload_n 0, 1) := by decide +kernel
theorem dX9_village_53 : decode cX9_village 53 = .ok (.iconst 0, 1) := by decide +kernel
theorem dX9_village_54 : decode cX9_village 54 = .ok (.putfield 169, 3) := by decide +kernel
theorem dX9_village_57 : decode cX9_village 57 = .ok (.iconst 0, 1) := by decide +kernel
theorem dX9_village_58 : decode cX9_village 58 = .ok (.istore_n 2, 1) := by decide +kernel
theorem dX9_village_59 : decode cX9_village 59 = .ok (.iload_n 2, 1) := by decide +kernel
theorem dX9_village_60 : decode cX9_village 60 = .ok (.aload_n 0, 1) := by decide +kernel
theorem dX9_village_61 : decode cX9_village 61 = .ok (.getfield 120, 3) := by decide +kernel
theorem dX9_village_64 : decode cX9_village 64 = .ok (.if_icmp .ge 62, 3) := by decide +kernel
theorem dX9_village_67 : decode cX9_village 67 = .ok (.aload_n 0, 1) := by decide +kernel
theorem dX9_village_68 : decode cX9_village 68 = .ok (.getfield 7, 3) := by decide +kernel
theorem dX9_village_71 : decode cX9_village 71 = .ok (.iload_n 2, 1) := by decide +kernel
theorem dX9_village_72 : decode cX9_village 72 = .ok (.aload_n 0, 1) := by decide +kernel
theorem dX9_village_73 : decode cX9_village 73 = .ok (.getfield 89, 3) := by decide +kernel
theorem dX9_village_76 : decode cX9_village 76 = .ok (.iload_n 2, 1) := by decide +kernel
theorem dX9_village_77 : decode cX9_village 77 = .ok (.iaload, 1) := by decide +kernel
theorem dX9_village_78 : decode cX9_village 78 = .ok (.iastore, 1) := by decide +kernel
theorem dX9_village_79 : decode cX9_village 79 = .ok (.aload_n 0, 1) := by decide +kernel
theorem dX9_village_80 : decode cX9_village 80 = .ok (.getfield 13, 3) := by decide +kernel
theorem dX9_village_83 : decode cX9_village 83 = .ok (.iload_n 2, 1) := by decide +kernel
theorem dX9_village_84 : decode cX9_village 84 = .ok (.aload_n 0, 1) := by decide +kernel
theorem dX9_village_85 : decode cX9_village 85 = .ok (.getfield 92, 3) := by decide +kernel
theorem dX9_village_88 : decode cX9_village 88 = .ok (.iload_n 2, 1) := by decide +kernel
theorem dX9_village_89 : decode cX9_village 89 = .ok (.iaload, 1) := by decide +kernel
theorem dX9_village_90 : decode cX9_village 90 = .ok (.iastore, 1) := by decide +kernel
theorem dX9_village_91 : decode cX9_village 91 = .ok (.aload_n 0, 1) := by decide +kernel
theorem dX9_village_92 : decode cX9_village 92 = .ok (.getfield 22, 3) := by decide +kernel
theorem dX9_village_95 : decode cX9_village 95 = .ok (.iload_n 2, 1) := by decide +kernel
theorem dX9_village_96 : decode cX9_village 96 = .ok (.aload_n 0, 1) := by decide +kernel
theorem dX9_village_97 : decode cX9_village 97 = .ok (.getfield 95, 3) := by decide +kernel
theorem dX9_village_100 : decode cX9_village 100 = .ok (.iload_n 2, 1) := by decide +kernel
theorem dX9_village_101 : decode cX9_village 101 = .ok (.iaload, 1) := by decide +kernel
theorem dX9_village_102 : decode cX9_village 102 = .ok (.ineg, 1) := by decide +kernel
theorem dX9_village_103 : decode cX9_village 103 = .ok (.iastore, 1) := by decide +kernel
theorem dX9_village_104 : decode cX9_village 104 = .ok (.aload_n 0, 1) := by decide +kernel
theorem dX9_village_105 : decode cX9_village 105 = .ok (.getfield 16, 3) := by decide +kernel
theorem dX9_village_108 : decode cX9_village 108 = .ok (.iload_n 2, 1) := by decide +kernel
theorem dX9_village_109 : decode cX9_village 109 = .ok (.bipush (-9), 2) := by decide +kernel
theorem dX9_village_111 : decode cX9_village 111 = .ok (.iastore, 1) := by decide +kernel
theorem dX9_village_112 : decode cX9_village 112 = .ok (.aload_n 0, 1) := by decide +kernel
theorem dX9_village_113 : decode cX9_village 113 = .ok (.getfield 19, 3) := by decide +kernel
theorem dX9_village_116 : decode cX9_village 116 = .ok (.iload_n 2, 1) := by decide +kernel
theorem dX9_village_117 : decode cX9_village 117 = .ok (.bipush (-9), 2) := by decide +kernel
theorem dX9_village_119 : decode cX9_village 119 = .ok (.iastore, 1) := by decide +kernel
theorem dX9_village_120 : decode cX9_village 120 = .ok (.iinc 2 1, 3) := by decide +kernel
theorem dX9_village_123 : decode cX9_village 123 = .ok (.goto (-64), 3) := by decide +kernel
theorem dX9_village_126 : decode cX9_village 126 = .ok (.iconst 0, 1) := by decide +kernel
theorem dX9_village_127 : decode cX9_village 127 = .ok (.istore_n 2, 1) := by decide +kernel
theorem dX9_village_128 : decode cX9_village 128 = .ok (.iload_n 2, 1) := by decide +kernel
theorem dX9_village_129 : decode cX9_village 129 = .ok (.iconst 3, 1) := by decide +kernel
theorem dX9_village_130 : decode cX9_village 130 = .ok (.if_icmp .ge 16, 3) := by decide +kernel
theorem dX9_village_133 : decode cX9_village 133 = .ok (.aload_n 0, 1) := by decide +kernel
theorem dX9_village_134 : decode cX9_village 134 = .ok (.getfield 56, 3) := by decide +kernel
theorem dX9_village_137 : decode cX9_village 137 = .ok (.iload_n 2, 1) := by decide +kernel
theorem dX9_village_138 : decode cX9_village 138 = .ok (.iconst (-1), 1) := by decide +kernel
theorem dX9_village_139 : decode cX9_village 139 = .ok (.iastore, 1) := by decide +kernel
theorem dX9_village_140 : decode cX9_village 140 = .ok (.iinc 2 1, 3) := by decide +kernel
theorem dX9_village_143 : decode cX9_village 143 = .ok (.goto (-15), 3) := by decide +kernel
theorem dX9_village_146 : decode cX9_village 146 = .ok (.aload_n 0, 1) := by decide +kernel
theorem dX9_village_147 : decode cX9_village 147 = .ok (.getfield 120, 3) := by decide +kernel
theorem dX9_village_150 : decode cX9_village 150 = .ok (.ireturn, 1) := by decide +kernel
theorem dX9_isStuck_0 : decode cX9_isStuck 0 = .ok (.aload_n 0, 1) := by decide +kernel
theorem dX9_isStuck_1 : decode cX9_isStuck 1 = .ok (.getfield 16, 3) := by decide +kernel
theorem dX9_isStuck_4 : decode cX9_isStuck 4 = .ok (.iload_n 1, 1) := by decide +kernel
theorem dX9_isStuck_5 : decode cX9_isStuck 5 = .ok (.iaload, 1) := by decide +kernel
theorem dX9_isStuck_6 : decode cX9_isStuck 6 = .ok (.bipush (-9), 2) := by decide +kernel
theorem dX9_isStuck_8 : decode cX9_isStuck 8 = .ok (.if_icmp .eq 7, 3) := by decide +kernel
theorem dX9_isStuck_11 : decode cX9_isStuck 11 = .ok (.iconst 1, 1) := by decide +kernel
theorem dX9_isStuck_12 : decode cX9_isStuck 12 = .ok (.goto 4, 3) := by decide +kernel
theorem dX9_isStuck_15 : decode cX9_isStuck 15 = .ok (.iconst 0, 1) := by decide +kernel
theorem dX9_isStuck_16 : decode cX9_isStuck 16 = .ok (.ireturn, 1) := by decide +kernel
theorem dX9_stuckSet_0 : decode cX9_stuckSet 0 = .ok (.iconst 0, 1) := by decide +kernel
theorem dX9_stuckSet_1 : decode cX9_stuckSet 1 = .ok (.istore_n 1, 1) := by decide +kernel
theorem dX9_stuckSet_2 : decode cX9_stuckSet 2 = .ok (.iconst 0, 1) := by decide +kernel
theorem dX9_stuckSet_3 : decode cX9_stuckSet 3 = .ok (.istore_n 2, 1) := by decide +kernel
theorem dX9_stuckSet_4 : decode cX9_stuckSet 4 = .ok (.iload_n 2, 1) := by decide +kernel
theorem dX9_stuckSet_5 : decode cX9_stuckSet 5 = .ok (.aload_n 0, 1) := by decide +kernel
theorem dX9_stuckSet_6 : decode cX9_stuckSet 6 = .ok (.getfield 120, 3) := by decide +kernel
theorem dX9_stuckSet_9 : decode cX9_stuckSet 9 = .ok (.if_icmp .ge 27, 3) := by decide +kernel
theorem dX9_stuckSet_12 : decode cX9_stuckSet 12 = .ok (.iload_n 1, 1) := by decide +kernel
theorem dX9_stuckSet_13 : decode cX9_stuckSet 13 = .ok (.aload_n 0, 1) := by decide +kernel
theorem dX9_stuckSet_14 : decode cX9_stuckSet 14 = .ok (.iload_n 2, 1) := by decide +kernel
theorem dX9_stuckSet_15 : decode cX9_stuckSet 15 = .ok (.invokevirtual 172, 3) := by decide +kernel
theorem dX9_stuckSet_18 : decode cX9_stuckSet 18 = .ok (.ifCond .eq 9, 3) := by decide +kernel
theorem dX9_stuckSet_21 : decode cX9_stuckSet 21 = .ok (.iconst 1, 1) := by decide +kernel
theorem dX9_stuckSet_22 : decode cX9_stuckSet 22 = .ok (.iload_n 2, 1) := by decide +kernel
theorem dX9_stuckSet_23 : decode cX9_stuckSet 23 = .ok (.ishl, 1) := by decide +kernel
theorem dX9_stuckSet_24 : decode cX9_stuckSet 24 = .ok (.goto 4, 3) := by decide +kernel
theorem dX9_stuckSet_27 : decode cX9_stuckSet 27 = .ok (.iconst 0, 1) := by decide +kernel
theorem dX9_stuckSet_28 : decode cX9_stuckSet 28 = .ok (.ior, 1) := by decide +kernel
theorem dX9_stuckSet_29 : decode cX9_stuckSet 29 = .ok (.istore_n 1, 1) := by decide +kernel
theorem dX9_stuckSet_30 : decode cX9_stuckSet 30 = .ok (.iinc 2 1, 3) := by decide +kernel
theorem dX9_stuckSet_33 : decode cX9_stuckSet 33 = .ok (.goto (-29), 3) := by decide +kernel
theorem dX9_stuckSet_36 : decode cX9_stuckSet 36 = .ok (.iload_n 1, 1) := by decide +kernel
theorem dX9_stuckSet_37 : decode cX9_stuckSet 37 = .ok (.ireturn, 1) := by decide +kernel
theorem dX9_depthOf_0 : decode cX9_depthOf 0 = .ok (.iconst 0, 1) := by decide +kernel
theorem dX9_depthOf_1 : decode cX9_depthOf 1 = .ok (.istore_n 2, 1) := by decide +kernel
theorem dX9_depthOf_2 : decode cX9_depthOf 2 = .ok (.iload_n 1, 1) := by decide +kernel
theorem dX9_depthOf_3 : decode cX9_depthOf 3 = .ok (.istore_n 3, 1) := by decide +kernel
theorem dX9_depthOf_4 : decode cX9_depthOf 4 = .ok (.iload_n 3, 1) := by decide +kernel
theorem dX9_depthOf_5 : decode cX9_depthOf 5 = .ok (.bipush 9, 2) := by decide +kernel
theorem dX9_depthOf_7 : decode cX9_depthOf 7 = .ok (.if_icmp .eq 22, 3) := by decide +kernel
theorem dX9_depthOf_10 : decode cX9_depthOf 10 = .ok (.iload_n 3, 1) := by decide +kernel
theorem dX9_depthOf_11 : decode cX9_depthOf 11 = .ok (.bipush (-9), 2) := by decide +kernel
theorem dX9_depthOf_13 : decode cX9_depthOf 13 = .ok (.if_icmp .eq 16, 3) := by decide +kernel
theorem dX9_depthOf_16 : decode cX9_depthOf 16 = .ok (.aload_n 0, 1) := by decide +kernel
theorem dX9_depthOf_17 : decode cX9_depthOf 17 = .ok (.getfield 16, 3) := by decide +kernel
theorem dX9_depthOf_20 : decode cX9_depthOf 20 = .ok (.iload_n 3, 1) := by decide +kernel
theorem dX9_depthOf_21 : decode cX9_depthOf 21 = .ok (.iaload, 1) := by decide +kernel
theorem dX9_depthOf_22 : decode cX9_depthOf 22 = .ok (.istore_n 3, 1) := by decide +kernel
theorem dX9_depthOf_23 : decode cX9_depthOf 23 = .ok (.iinc 2 1, 3) := by decide +kernel
theorem dX9_depthOf_26 : decode cX9_depthOf 26 = .ok (.goto (-22), 3) := by decide +kernel
theorem dX9_depthOf_29 : decode cX9_depthOf 29 = .ok (.iload_n 3, 1) := by decide +kernel
theorem dX9_depthOf_30 : decode cX9_depthOf 30 = .ok (.bipush (-9), 2) := by decide +kernel
theorem dX9_depthOf_32 : decode cX9_depthOf 32 = .ok (.if_icmp .ne 7, 3) := by decide +kernel
theorem dX9_depthOf_35 : decode cX9_depthOf 35 = .ok (.iconst 0, 1) := by decide +kernel
theorem dX9_depthOf_36 : decode cX9_depthOf 36 = .ok (.goto 4, 3) := by decide +kernel
theorem dX9_depthOf_39 : decode cX9_depthOf 39 = .ok (.iload_n 2, 1) := by decide +kernel
theorem dX9_depthOf_40 : decode cX9_depthOf 40 = .ok (.ireturn, 1) := by decide +kernel
theorem dX9_deepest_0 : decode cX9_deepest 0 = .ok (.iconst 0, 1) := by decide +kernel
theorem dX9_deepest_1 : decode cX9_deepest 1 = .ok (.istore_n 1, 1) := by decide +kernel
theorem dX9_deepest_2 : decode cX9_deepest 2 = .ok (.iconst 0, 1) := by decide +kernel
theorem dX9_deepest_3 : decode cX9_deepest 3 = .ok (.istore_n 2, 1) := by decide +kernel
theorem dX9_deepest_4 : decode cX9_deepest 4 = .ok (.iload_n 2, 1) := by decide +kernel
theorem dX9_deepest_5 : decode cX9_deepest 5 = .ok (.aload_n 0, 1) := by decide +kernel
theorem dX9_deepest_6 : decode cX9_deepest 6 = .ok (.getfield 120, 3) := by decide +kernel
theorem dX9_deepest_9 : decode cX9_deepest 9 = .ok (.if_icmp .ge 26, 3) := by decide +kernel
theorem dX9_deepest_12 : decode cX9_deepest 12 = .ok (.aload_n 0, 1) := by decide +kernel
theorem dX9_deepest_13 : decode cX9_deepest 13 = .ok (.iload_n 2, 1) := by decide +kernel
theorem dX9_deepest_14 : decode cX9_deepest 14 = .ok (.invokevirtual 175, 3) := by decide +kernel
theorem dX9_deepest_17 : decode cX9_deepest 17 = .ok (.istore_n 3, 1) := by decide +kernel
theorem dX9_deepest_18 : decode cX9_deepest 18 = .ok (.iload_n 3, 1) := by decide +kernel
theorem dX9_deepest_19 : decode cX9_deepest 19 = .ok (.iload_n 1, 1) := by decide +kernel
theorem dX9_deepest_20 : decode cX9_deepest 20 = .ok (.if_icmp .le 7, 3) := by decide +kernel
theorem dX9_deepest_23 : decode cX9_deepest 23 = .ok (.iload_n 3, 1) := by decide +kernel
theorem dX9_deepest_24 : decode cX9_deepest 24 = .ok (.goto 4, 3) := by decide +kernel
theorem dX9_deepest_27 : decode cX9_deepest 27 = .ok (.iload_n 1, 1) := by decide +kernel
theorem dX9_deepest_28 : decode cX9_deepest 28 = .ok (.istore_n 1, 1) := by decide +kernel
theorem dX9_deepest_29 : decode cX9_deepest 29 = .ok (.iinc 2 1, 3) := by decide +kernel
theorem dX9_deepest_32 : decode cX9_deepest 32 = .ok (.goto (-28), 3) := by decide +kernel
theorem dX9_deepest_35 : decode cX9_deepest 35 = .ok (.iload_n 1, 1) := by decide +kernel
theorem dX9_deepest_36 : decode cX9_deepest 36 = .ok (.ireturn, 1) := by decide +kernel
theorem dX9_hangSet_0 : decode cX9_hangSet 0 = .ok (.iconst 0, 1) := by decide +kernel
theorem dX9_hangSet_1 : decode cX9_hangSet 1 = .ok (.istore_n 2, 1) := by decide +kernel
theorem dX9_hangSet_2 : decode cX9_hangSet 2 = .ok (.iconst 0, 1) := by decide +kernel
theorem dX9_hangSet_3 : decode cX9_hangSet 3 = .ok (.istore_n 3, 1) := by decide +kernel
theorem dX9_hangSet_4 : decode cX9_hangSet 4 = .ok (.iload_n 3, 1) := by decide +kernel
theorem dX9_hangSet_5 : decode cX9_hangSet 5 = .ok (.aload_n 0, 1) := by decide +kernel
theorem dX9_hangSet_6 : decode cX9_hangSet 6 = .ok (.getfield 120, 3) := by decide +kernel
theorem dX9_hangSet_9 : decode cX9_hangSet 9 = .ok (.if_icmp .ge 29, 3) := by decide +kernel
theorem dX9_hangSet_12 : decode cX9_hangSet 12 = .ok (.iload_n 2, 1) := by decide +kernel
theorem dX9_hangSet_13 : decode cX9_hangSet 13 = .ok (.aload_n 0, 1) := by decide +kernel
theorem dX9_hangSet_14 : decode cX9_hangSet 14 = .ok (.getfield 16, 3) := by decide +kernel
theorem dX9_hangSet_17 : decode cX9_hangSet 17 = .ok (.iload_n 3, 1) := by decide +kernel
theorem dX9_hangSet_18 : decode cX9_hangSet 18 = .ok (.iaload, 1) := by decide +kernel
theorem dX9_hangSet_19 : decode cX9_hangSet 19 = .ok (.iload_n 1, 1) := by decide +kernel
theorem dX9_hangSet_20 : decode cX9_hangSet 20 = .ok (.if_icmp .ne 9, 3) := by decide +kernel
theorem dX9_hangSet_23 : decode cX9_hangSet 23 = .ok (.iconst 1, 1) := by decide +kernel
theorem dX9_hangSet_24 : decode cX9_hangSet 24 = .ok (.iload_n 3, 1) := by decide +kernel
theorem dX9_hangSet_25 : decode cX9_hangSet 25 = .ok (.ishl, 1) := by decide +kernel
theorem dX9_hangSet_26 : decode cX9_hangSet 26 = .ok (.goto 4, 3) := by decide +kernel
theorem dX9_hangSet_29 : decode cX9_hangSet 29 = .ok (.iconst 0, 1) := by decide +kernel
theorem dX9_hangSet_30 : decode cX9_hangSet 30 = .ok (.ior, 1) := by decide +kernel
theorem dX9_hangSet_31 : decode cX9_hangSet 31 = .ok (.istore_n 2, 1) := by decide +kernel
theorem dX9_hangSet_32 : decode cX9_hangSet 32 = .ok (.iinc 3 1, 3) := by decide +kernel
theorem dX9_hangSet_35 : decode cX9_hangSet 35 = .ok (.goto (-31), 3) := by decide +kernel
theorem dX9_hangSet_38 : decode cX9_hangSet 38 = .ok (.iload_n 2, 1) := by decide +kernel
theorem dX9_hangSet_39 : decode cX9_hangSet 39 = .ok (.ireturn, 1) := by decide +kernel
theorem dX9_daysAgo_0 : decode cX9_daysAgo 0 = .ok (.aload_n 0, 1) := by decide +kernel
theorem dX9_daysAgo_1 : decode cX9_daysAgo 1 = .ok (.getfield 166, 3) := by decide +kernel
theorem dX9_daysAgo_4 : decode cX9_daysAgo 4 = .ok (.aload_n 0, 1) := by decide +kernel
theorem dX9_daysAgo_5 : decode cX9_daysAgo 5 = .ok (.getfield 22, 3) := by decide +kernel
theorem dX9_daysAgo_8 : decode cX9_daysAgo 8 = .ok (.iload_n 1, 1) := by decide +kernel
theorem dX9_daysAgo_9 : decode cX9_daysAgo 9 = .ok (.iaload, 1) := by decide +kernel
theorem dX9_daysAgo_10 : decode cX9_daysAgo 10 = .ok (.isub, 1) := by decide +kernel
theorem dX9_daysAgo_11 : decode cX9_daysAgo 11 = .ok (.istore_n 2, 1) := by decide +kernel
theorem dX9_daysAgo_12 : decode cX9_daysAgo 12 = .ok (.iload_n 2, 1) := by decide +kernel
theorem dX9_daysAgo_13 : decode cX9_daysAgo 13 = .ok (.sipush 9999, 3) := by decide +kernel
theorem dX9_daysAgo_16 : decode cX9_daysAgo 16 = .ok (.if_icmp .le 9, 3) := by decide +kernel
theorem dX9_daysAgo_19 : decode cX9_daysAgo 19 = .ok (.sipush 9999, 3) := by decide +kernel
theorem dX9_daysAgo_22 : decode cX9_daysAgo 22 = .ok (.goto 4, 3) := by decide +kernel
theorem dX9_daysAgo_25 : decode cX9_daysAgo 25 = .ok (.iload_n 2, 1) := by decide +kernel
theorem dX9_daysAgo_26 : decode cX9_daysAgo 26 = .ok (.ireturn, 1) := by decide +kernel
theorem dX9_personOf_0 : decode cX9_personOf 0 = .ok (.iload_n 2, 1) := by decide +kernel
theorem dX9_personOf_1 : decode cX9_personOf 1 = .ok (.tableswitch 69 0 4 #[35, 42, 49, 55, 62], 35) := by decide +kernel
theorem dX9_personOf_36 : decode cX9_personOf 36 = .ok (.aload_n 0, 1) := by decide +kernel
theorem dX9_personOf_37 : decode cX9_personOf 37 = .ok (.getfield 7, 3) := by decide +kernel
theorem dX9_personOf_40 : decode cX9_personOf 40 = .ok (.iload_n 1, 1) := by decide +kernel
theorem dX9_personOf_41 : decode cX9_personOf 41 = .ok (.iaload, 1) := by decide +kernel
theorem dX9_personOf_42 : decode cX9_personOf 42 = .ok (.ireturn, 1) := by decide +kernel
theorem dX9_personOf_43 : decode cX9_personOf 43 = .ok (.aload_n 0, 1) := by decide +kernel
theorem dX9_personOf_44 : decode cX9_personOf 44 = .ok (.getfield 13, 3) := by decide +kernel
theorem dX9_personOf_47 : decode cX9_personOf 47 = .ok (.iload_n 1, 1) := by decide +kernel
theorem dX9_personOf_48 : decode cX9_personOf 48 = .ok (.iaload, 1) := by decide +kernel
theorem dX9_personOf_49 : decode cX9_personOf 49 = .ok (.ireturn, 1) := by decide +kernel
theorem dX9_personOf_50 : decode cX9_personOf 50 = .ok (.aload_n 0, 1) := by decide +kernel
theorem dX9_personOf_51 : decode cX9_personOf 51 = .ok (.iload_n 1, 1) := by decide +kernel
theorem dX9_personOf_52 : decode cX9_personOf 52 = .ok (.invokevirtual 178, 3) := by decide +kernel
theorem dX9_personOf_55 : decode cX9_personOf 55 = .ok (.ireturn, 1) := by decide +kernel
theorem dX9_personOf_56 : decode cX9_personOf 56 = .ok (.aload_n 0, 1) := by decide +kernel
theorem dX9_personOf_57 : decode cX9_personOf 57 = .ok (.getfield 16, 3) := by decide +kernel
theorem dX9_personOf_60 : decode cX9_personOf 60 = .ok (.iload_n 1, 1) := by decide +kernel
theorem dX9_personOf_61 : decode cX9_personOf 61 = .ok (.iaload, 1) := by decide +kernel
theorem dX9_personOf_62 : decode cX9_personOf 62 = .ok (.ireturn, 1) := by decide +kernel
theorem dX9_personOf_63 : decode cX9_personOf 63 = .ok (.aload_n 0, 1) := by decide +kernel
theorem dX9_personOf_64 : decode cX9_personOf 64 = .ok (.getfield 19, 3) := by decide +kernel
theorem dX9_personOf_67 : decode cX9_personOf 67 = .ok (.iload_n 1, 1) := by decide +kernel
theorem dX9_personOf_68 : decode cX9_personOf 68 = .ok (.iaload, 1) := by decide +kernel
theorem dX9_personOf_69 : decode cX9_personOf 69 = .ok (.ireturn, 1) := by decide +kernel
theorem dX9_personOf_70 : decode cX9_personOf 70 = .ok (.aload_n 0, 1) := by decide +kernel
theorem dX9_personOf_71 : decode cX9_personOf 71 = .ok (.iload_n 1, 1) := by decide +kernel
theorem dX9_personOf_72 : decode cX9_personOf 72 = .ok (.invokevirtual 175, 3) := by decide +kernel
theorem dX9_personOf_75 : decode cX9_personOf 75 = .ok (.ireturn, 1) := by decide +kernel
theorem dX9_person_0 : decode cX9_person 0 = .ok (.aload_n 0, 1) := by decide +kernel
theorem dX9_person_1 : decode cX9_person 1 = .ok (.iload_n 1, 1) := by decide +kernel
theorem dX9_person_2 : decode cX9_person 2 = .ok (.invokevirtual 181, 3) := by decide +kernel
theorem dX9_person_5 : decode cX9_person 5 = .ok (.ifCond .eq 15, 3) := by decide +kernel
theorem dX9_person_8 : decode cX9_person 8 = .ok (.iload_n 2, 1) := by decide +kernel
theorem dX9_person_9 : decode cX9_person 9 = .ok (.i2l, 1) := by decide +kernel
theorem dX9_person_10 : decode cX9_person 10 = .ok (.lconst 0, 1) := by decide +kernel
theorem dX9_person_11 : decode cX9_person 11 = .ok (.ldc2_w 112, 3) := by decide +kernel
theorem dX9_person_14 : decode cX9_person 14 = .ok (.invokestatic 114, 3) := by decide +kernel
theorem dX9_person_17 : decode cX9_person 17 = .ok (.ifCond .ne 5, 3) := by decide +kernel
theorem dX9_person_20 : decode cX9_person 20 = .ok (.iconst (-1), 1) := by decide +kernel
theorem dX9_person_21 : decode cX9_person 21 = .ok (.ireturn, 1) := by decide +kernel
theorem dX9_person_22 : decode cX9_person 22 = .ok (.aload_n 0, 1) := by decide +kernel
theorem dX9_person_23 : decode cX9_person 23 = .ok (.aload_n 0, 1) := by decide +kernel
theorem dX9_person_24 : decode cX9_person 24 = .ok (.iload_n 1, 1) := by decide +kernel
theorem dX9_person_25 : decode cX9_person 25 = .ok (.iload_n 2, 1) := by decide +kernel
theorem dX9_person_26 : decode cX9_person 26 = .ok (.invokevirtual 184, 3) := by decide +kernel
theorem dX9_person_29 : decode cX9_person 29 = .ok (.putfield 131, 3) := by decide +kernel
theorem dX9_person_32 : decode cX9_person 32 = .ok (.iconst 1, 1) := by decide +kernel
theorem dX9_person_33 : decode cX9_person 33 = .ok (.ireturn, 1) := by decide +kernel
theorem dX9_isOf_0 : decode cX9_isOf 0 = .ok (.aload_n 0, 1) := by decide +kernel
theorem dX9_isOf_1 : decode cX9_isOf 1 = .ok (.getfield 7, 3) := by decide +kernel
theorem dX9_isOf_4 : decode cX9_isOf 4 = .ok (.iload_n 1, 1) := by decide +kernel
theorem dX9_isOf_5 : decode cX9_isOf 5 = .ok (.iaload, 1) := by decide +kernel
theorem dX9_isOf_6 : decode cX9_isOf 6 = .ok (.iload_n 2, 1) := by decide +kernel
theorem dX9_isOf_7 : decode cX9_isOf 7 = .ok (.if_icmp .eq 33, 3) := by decide +kernel
theorem dX9_isOf_10 : decode cX9_isOf 10 = .ok (.iload_n 2, 1) := by decide +kernel
theorem dX9_isOf_11 : decode cX9_isOf 11 = .ok (.iconst 1, 1) := by decide +kernel
theorem dX9_isOf_12 : decode cX9_isOf 12 = .ok (.if_icmp .ne 13, 3) := by decide +kernel
theorem dX9_isOf_15 : decode cX9_isOf 15 = .ok (.aload_n 0, 1) := by decide +kernel
theorem dX9_isOf_16 : decode cX9_isOf 16 = .ok (.getfield 7, 3) := by decide +kernel
theorem dX9_isOf_19 : decode cX9_isOf 19 = .ok (.iload_n 1, 1) := by decide +kernel
theorem dX9_isOf_20 : decode cX9_isOf 20 = .ok (.iaload, 1) := by decide +kernel
theorem dX9_isOf_21 : decode cX9_isOf 21 = .ok (.iconst 5, 1) := by decide +kernel
theorem dX9_isOf_22 : decode cX9_isOf 22 = .ok (.if_icmp .eq 18, 3) := by decide +kernel
theorem dX9_isOf_25 : decode cX9_isOf 25 = .ok (.iload_n 2, 1) := by decide +kernel
theorem dX9_isOf_26 : decode cX9_isOf 26 = .ok (.iconst 2, 1) := by decide +kernel
theorem dX9_isOf_27 : decode cX9_isOf 27 = .ok (.if_icmp .ne 17, 3) := by decide +kernel
theorem dX9_isOf_30 : decode cX9_isOf 30 = .ok (.aload_n 0, 1) := by decide +kernel
theorem dX9_isOf_31 : decode cX9_isOf 31 = .ok (.getfield 7, 3) := by decide +kernel
theorem dX9_isOf_34 : decode cX9_isOf 34 = .ok (.iload_n 1, 1) := by decide +kernel
theorem dX9_isOf_35 : decode cX9_isOf 35 = .ok (.iaload, 1) := by decide +kernel
theorem dX9_isOf_36 : decode cX9_isOf 36 = .ok (.iconst 4, 1) := by decide +kernel
theorem dX9_isOf_37 : decode cX9_isOf 37 = .ok (.if_icmp .ne 7, 3) := by decide +kernel
theorem dX9_isOf_40 : decode cX9_isOf 40 = .ok (.iconst 1, 1) := by decide +kernel
theorem dX9_isOf_41 : decode cX9_isOf 41 = .ok (.goto 4, 3) := by decide +kernel
theorem dX9_isOf_44 : decode cX9_isOf 44 = .ok (.iconst 0, 1) := by decide +kernel
theorem dX9_isOf_45 : decode cX9_isOf 45 = .ok (.ireturn, 1) := by decide +kernel
theorem dX9_sightOf_0 : decode cX9_sightOf 0 = .ok (.aload_n 0, 1) := by decide +kernel
theorem dX9_sightOf_1 : decode cX9_sightOf 1 = .ok (.getfield 7, 3) := by decide +kernel
theorem dX9_sightOf_4 : decode cX9_sightOf 4 = .ok (.iload_n 1, 1) := by decide +kernel
theorem dX9_sightOf_5 : decode cX9_sightOf 5 = .ok (.iaload, 1) := by decide +kernel
theorem dX9_sightOf_6 : decode cX9_sightOf 6 = .ok (.iconst 4, 1) := by decide +kernel
theorem dX9_sightOf_7 : decode cX9_sightOf 7 = .ok (.if_icmp .ne 10, 3) := by decide +kernel
theorem dX9_sightOf_10 : decode cX9_sightOf 10 = .ok (.aload_n 0, 1) := by decide +kernel
theorem dX9_sightOf_11 : decode cX9_sightOf 11 = .ok (.invokevirtual 188, 3) := by decide +kernel
theorem dX9_sightOf_14 : decode cX9_sightOf 14 = .ok (.goto 10, 3) := by decide +kernel
theorem dX9_sightOf_17 : decode cX9_sightOf 17 = .ok (.aload_n 0, 1) := by decide +kernel
theorem dX9_sightOf_18 : decode cX9_sightOf 18 = .ok (.invokevirtual 192, 3) := by decide +kernel
theorem dX9_sightOf_21 : decode cX9_sightOf 21 = .ok (.invokestatic 195, 3) := by decide +kernel
theorem dX9_sightOf_24 : decode cX9_sightOf 24 = .ok (.ireturn, 1) := by decide +kernel
theorem dX9_shortOf_0 : decode cX9_shortOf 0 = .ok (.aload_n 0, 1) := by decide +kernel
theorem dX9_shortOf_1 : decode cX9_shortOf 1 = .ok (.getfield 13, 3) := by decide +kernel
theorem dX9_shortOf_4 : decode cX9_shortOf 4 = .ok (.iload_n 1, 1) := by decide +kernel
theorem dX9_shortOf_5 : decode cX9_shortOf 5 = .ok (.iaload, 1) := by decide +kernel
theorem dX9_shortOf_6 : decode cX9_shortOf 6 = .ok (.iconst 1, 1) := by decide +kernel
theorem dX9_shortOf_7 : decode cX9_shortOf 7 = .ok (.iadd, 1) := by decide +kernel
theorem dX9_shortOf_8 : decode cX9_shortOf 8 = .ok (.aload_n 0, 1) := by decide +kernel
theorem dX9_shortOf_9 : decode cX9_shortOf 9 = .ok (.iload_n 1, 1) := by decide +kernel
theorem dX9_shortOf_10 : decode cX9_shortOf 10 = .ok (.invokevirtual 198, 3) := by decide +kernel
theorem dX9_shortOf_13 : decode cX9_shortOf 13 = .ok (.isub, 1) := by decide +kernel
theorem dX9_shortOf_14 : decode cX9_shortOf 14 = .ok (.istore_n 2, 1) := by decide +kernel
theorem dX9_shortOf_15 : decode cX9_shortOf 15 = .ok (.iload_n 2, 1) := by decide +kernel
theorem dX9_shortOf_16 : decode cX9_shortOf 16 = .ok (.ifCond .ge 7, 3) := by decide +kernel
theorem dX9_shortOf_19 : decode cX9_shortOf 19 = .ok (.iconst 0, 1) := by decide +kernel
theorem dX9_shortOf_20 : decode cX9_shortOf 20 = .ok (.goto 4, 3) := by decide +kernel
theorem dX9_shortOf_23 : decode cX9_shortOf 23 = .ok (.iload_n 2, 1) := by decide +kernel
theorem dX9_shortOf_24 : decode cX9_shortOf 24 = .ok (.ireturn, 1) := by decide +kernel
theorem dX9_hangOnChildren_0 : decode cX9_hangOnChildren 0 = .ok (.iconst 0, 1) := by decide +kernel
theorem dX9_hangOnChildren_1 : decode cX9_hangOnChildren 1 = .ok (.istore_n 1, 1) := by decide +kernel
theorem dX9_hangOnChildren_2 : decode cX9_hangOnChildren 2 = .ok (.iconst 0, 1) := by decide +kernel
theorem dX9_hangOnChildren_3 : decode cX9_hangOnChildren 3 = .ok (.istore_n 2, 1) := by decide +kernel
theorem dX9_hangOnChildren_4 : decode cX9_hangOnChildren 4 = .ok (.iload_n 2, 1) := by decide +kernel
theorem dX9_hangOnChildren_5 : decode cX9_hangOnChildren 5 = .ok (.aload_n 0, 1) := by decide +kernel
theorem dX9_hangOnChildren_6 : decode cX9_hangOnChildren 6 = .ok (.getfield 120, 3) := by decide +kernel
theorem dX9_hangOnChildren_9 : decode cX9_hangOnChildren 9 = .ok (.if_icmp .ge 49, 3) := by decide +kernel
theorem dX9_hangOnChildren_12 : decode cX9_hangOnChildren 12 = .ok (.iload_n 1, 1) := by decide +kernel
theorem dX9_hangOnChildren_13 : decode cX9_hangOnChildren 13 = .ok (.aload_n 0, 1) := by decide +kernel
theorem dX9_hangOnChildren_14 : decode cX9_hangOnChildren 14 = .ok (.getfield 16, 3) := by decide +kernel
theorem dX9_hangOnChildren_17 : decode cX9_hangOnChildren 17 = .ok (.iload_n 2, 1) := by decide +kernel
theorem dX9_hangOnChildren_18 : decode cX9_hangOnChildren 18 = .ok (.iaload, 1) := by decide +kernel
theorem dX9_hangOnChildren_19 : decode cX9_hangOnChildren 19 = .ok (.i2l, 1) := by decide +kernel
theorem dX9_hangOnChildren_20 : decode cX9_hangOnChildren 20 = .ok (.lconst 0, 1) := by decide +kernel
theorem dX9_hangOnChildren_21 : decode cX9_hangOnChildren 21 = .ok (.ldc2_w 201, 3) := by decide +kernel
theorem dX9_hangOnChildren_24 : decode cX9_hangOnChildren 24 = .ok (.invokestatic 114, 3) := by decide +kernel
theorem dX9_hangOnChildren_27 : decode cX9_hangOnChildren 27 = .ok (.ifCond .eq 22, 3) := by decide +kernel
theorem dX9_hangOnChildren_30 : decode cX9_hangOnChildren 30 = .ok (.aload_n 0, 1) := by decide +kernel
theorem dX9_hangOnChildren_31 : decode cX9_hangOnChildren 31 = .ok (.getfield 7, 3) := by decide +kernel
theorem dX9_hangOnChildren_34 : decode cX9_hangOnChildren 34 = .ok (.aload_n 0, 1) := by decide +kernel
theorem dX9_hangOnChildren_35 : decode cX9_hangOnChildren 35 = .ok (.getfield 16, 3) := by decide +kernel
theorem dX9_hangOnChildren_38 : decode cX9_hangOnChildren 38 = .ok (.iload_n 2, 1) := by decide +kernel
theorem dX9_hangOnChildren_39 : decode cX9_hangOnChildren 39 = .ok (.iaload, 1) := by decide +kernel
theorem dX9_hangOnChildren_40 : decode cX9_hangOnChildren 40 = .ok (.iaload, 1) := by decide +kernel
theorem dX9_hangOnChildren_41 : decode cX9_hangOnChildren 41 = .ok (.iconst 3, 1) := by decide +kernel
theorem dX9_hangOnChildren_42 : decode cX9_hangOnChildren 42 = .ok (.if_icmp .ne 7, 3) := by decide +kernel
theorem dX9_hangOnChildren_45 : decode cX9_hangOnChildren 45 = .ok (.iconst 1, 1) := by decide +kernel
theorem dX9_hangOnChildren_46 : decode cX9_hangOnChildren 46 = .ok (.goto 4, 3) := by decide +kernel
theorem dX9_hangOnChildren_49 : decode cX9_hangOnChildren 49 = .ok (.iconst 0, 1) := by decide +kernel
theorem dX9_hangOnChildren_50 : decode cX9_hangOnChildren 50 = .ok (.iadd, 1) := by decide +kernel
theorem dX9_hangOnChildren_51 : decode cX9_hangOnChildren 51 = .ok (.istore_n 1, 1) := by decide +kernel
theorem dX9_hangOnChildren_52 : decode cX9_hangOnChildren 52 = .ok (.iinc 2 1, 3) := by decide +kernel
theorem dX9_hangOnChildren_55 : decode cX9_hangOnChildren 55 = .ok (.goto (-51), 3) := by decide +kernel
theorem dX9_hangOnChildren_58 : decode cX9_hangOnChildren 58 = .ok (.iload_n 1, 1) := by decide +kernel
theorem dX9_hangOnChildren_59 : decode cX9_hangOnChildren 59 = .ok (.ireturn, 1) := by decide +kernel
theorem dX9_fedBy_0 : decode cX9_fedBy 0 = .ok (.iconst 0, 1) := by decide +kernel
theorem dX9_fedBy_1 : decode cX9_fedBy 1 = .ok (.istore_n 2, 1) := by decide +kernel
theorem dX9_fedBy_2 : decode cX9_fedBy 2 = .ok (.iconst 0, 1) := by decide +kernel
theorem dX9_fedBy_3 : decode cX9_fedBy 3 = .ok (.istore_n 3, 1) := by decide +kernel
theorem dX9_fedBy_4 : decode cX9_fedBy 4 = .ok (.iload_n 3, 1) := by decide +kernel
theorem dX9_fedBy_5 : decode cX9_fedBy 5 = .ok (.aload_n 0, 1) := by decide +kernel
theorem dX9_fedBy_6 : decode cX9_fedBy 6 = .ok (.getfield 120, 3) := by decide +kernel
theorem dX9_fedBy_9 : decode cX9_fedBy 9 = .ok (.if_icmp .ge 33, 3) := by decide +kernel
theorem dX9_fedBy_12 : decode cX9_fedBy 12 = .ok (.iload_n 2, 1) := by decide +kernel
theorem dX9_fedBy_13 : decode cX9_fedBy 13 = .ok (.iload_n 3, 1) := by decide +kernel
theorem dX9_fedBy_14 : decode cX9_fedBy 14 = .ok (.iload_n 1, 1) := by decide +kernel
theorem dX9_fedBy_15 : decode cX9_fedBy 15 = .ok (.if_icmp .eq 18, 3) := by decide +kernel
theorem dX9_fedBy_18 : decode cX9_fedBy 18 = .ok (.aload_n 0, 1) := by decide +kernel
theorem dX9_fedBy_19 : decode cX9_fedBy 19 = .ok (.iload_n 1, 1) := by decide +kernel
theorem dX9_fedBy_20 : decode cX9_fedBy 20 = .ok (.iload_n 3, 1) := by decide +kernel
theorem dX9_fedBy_21 : decode cX9_fedBy 21 = .ok (.invokevirtual 203, 3) := by decide +kernel
theorem dX9_fedBy_24 : decode cX9_fedBy 24 = .ok (.ifCond .le 9, 3) := by decide +kernel
theorem dX9_fedBy_27 : decode cX9_fedBy 27 = .ok (.iconst 1, 1) := by decide +kernel
theorem dX9_fedBy_28 : decode cX9_fedBy 28 = .ok (.iload_n 3, 1) := by decide +kernel
theorem dX9_fedBy_29 : decode cX9_fedBy 29 = .ok (.ishl, 1) := by decide +kernel
theorem dX9_fedBy_30 : decode cX9_fedBy 30 = .ok (.goto 4, 3) := by decide +kernel
theorem dX9_fedBy_33 : decode cX9_fedBy 33 = .ok (.iconst 0, 1) := by decide +kernel
theorem dX9_fedBy_34 : decode cX9_fedBy 34 = .ok (.ior, 1) := by decide +kernel
theorem dX9_fedBy_35 : decode cX9_fedBy 35 = .ok (.istore_n 2, 1) := by decide +kernel
theorem dX9_fedBy_36 : decode cX9_fedBy 36 = .ok (.iinc 3 1, 3) := by decide +kernel
theorem dX9_fedBy_39 : decode cX9_fedBy 39 = .ok (.goto (-35), 3) := by decide +kernel
theorem dX9_fedBy_42 : decode cX9_fedBy 42 = .ok (.iload_n 2, 1) := by decide +kernel
theorem dX9_fedBy_43 : decode cX9_fedBy 43 = .ok (.ireturn, 1) := by decide +kernel
theorem dX9_mark_0 : decode cX9_mark 0 = .ok (.aload_n 0, 1) := by decide +kernel
theorem dX9_mark_1 : decode cX9_mark 1 = .ok (.iload_n 1, 1) := by decide +kernel
theorem dX9_mark_2 : decode cX9_mark 2 = .ok (.invokevirtual 181, 3) := by decide +kernel
theorem dX9_mark_5 : decode cX9_mark 5 = .ok (.ifCond .eq 15, 3) := by decide +kernel
theorem dX9_mark_8 : decode cX9_mark 8 = .ok (.iload_n 2, 1) := by decide +kernel
theorem dX9_mark_9 : decode cX9_mark 9 = .ok (.i2l, 1) := by decide +kernel
theorem dX9_mark_10 : decode cX9_mark 10 = .ok (.lconst 1, 1) := by decide +kernel
theorem dX9_mark_11 : decode cX9_mark 11 = .ok (.ldc2_w 112, 3) := by decide +kernel
theorem dX9_mark_14 : decode cX9_mark 14 = .ok (.invokestatic 114, 3) := by decide +kernel
theorem dX9_mark_17 : decode cX9_mark 17 = .ok (.ifCond .ne 5, 3) := by decide +kernel
theorem dX9_mark_20 : decode cX9_mark 20 = .ok (.iconst (-1), 1) := by decide +kernel
theorem dX9_mark_21 : decode cX9_mark 21 = .ok (.ireturn, 1) := by decide +kernel
theorem dX9_mark_22 : decode cX9_mark 22 = .ok (.aload_n 0, 1) := by decide +kernel
theorem dX9_mark_23 : decode cX9_mark 23 = .ok (.iload_n 1, 1) := by decide +kernel
theorem dX9_mark_24 : decode cX9_mark 24 = .ok (.iload_n 2, 1) := by decide +kernel
theorem dX9_mark_25 : decode cX9_mark 25 = .ok (.invokevirtual 206, 3) := by decide +kernel
theorem dX9_mark_28 : decode cX9_mark 28 = .ok (.ifCond .ne 9, 3) := by decide +kernel
theorem dX9_mark_31 : decode cX9_mark 31 = .ok (.aload_n 0, 1) := by decide +kernel
theorem dX9_mark_32 : decode cX9_mark 32 = .ok (.iconst 3, 1) := by decide +kernel
theorem dX9_mark_33 : decode cX9_mark 33 = .ok (.invokevirtual 127, 3) := by decide +kernel
theorem dX9_mark_36 : decode cX9_mark 36 = .ok (.ireturn, 1) := by decide +kernel
theorem dX9_mark_37 : decode cX9_mark 37 = .ok (.iload_n 2, 1) := by decide +kernel
theorem dX9_mark_38 : decode cX9_mark 38 = .ok (.tableswitch 62 1 4 #[30, 46, 52, 57], 30) := by decide +kernel
theorem dX9_mark_68 : decode cX9_mark 68 = .ok (.aload_n 0, 1) := by decide +kernel
theorem dX9_mark_69 : decode cX9_mark 69 = .ok (.getfield 19, 3) := by decide +kernel
theorem dX9_mark_72 : decode cX9_mark 72 = .ok (.iload_n 1, 1) := by decide +kernel
theorem dX9_mark_73 : decode cX9_mark 73 = .ok (.iaload, 1) := by decide +kernel
theorem dX9_mark_74 : decode cX9_mark 74 = .ok (.iconst 1, 1) := by decide +kernel
theorem dX9_mark_75 : decode cX9_mark 75 = .ok (.if_icmp .ne 7, 3) := by decide +kernel
theorem dX9_mark_78 : decode cX9_mark 78 = .ok (.iconst 1, 1) := by decide +kernel
theorem dX9_mark_79 : decode cX9_mark 79 = .ok (.goto 4, 3) := by decide +kernel
theorem dX9_mark_82 : decode cX9_mark 82 = .ok (.iconst 0, 1) := by decide +kernel
theorem dX9_mark_83 : decode cX9_mark 83 = .ok (.ireturn, 1) := by decide +kernel
theorem dX9_mark_84 : decode cX9_mark 84 = .ok (.aload_n 0, 1) := by decide +kernel
theorem dX9_mark_85 : decode cX9_mark 85 = .ok (.iload_n 1, 1) := by decide +kernel
theorem dX9_mark_86 : decode cX9_mark 86 = .ok (.invokevirtual 210, 3) := by decide +kernel
theorem dX9_mark_89 : decode cX9_mark 89 = .ok (.ireturn, 1) := by decide +kernel
theorem dX9_mark_90 : decode cX9_mark 90 = .ok (.aload_n 0, 1) := by decide +kernel
theorem dX9_mark_91 : decode cX9_mark 91 = .ok (.invokevirtual 213, 3) := by decide +kernel
theorem dX9_mark_94 : decode cX9_mark 94 = .ok (.ireturn, 1) := by decide +kernel
theorem dX9_mark_95 : decode cX9_mark 95 = .ok (.aload_n 0, 1) := by decide +kernel
theorem dX9_mark_96 : decode cX9_mark 96 = .ok (.invokevirtual 188, 3) := by decide +kernel
theorem dX9_mark_99 : decode cX9_mark 99 = .ok (.ireturn, 1) := by decide +kernel
theorem dX9_mark_100 : decode cX9_mark 100 = .ok (.aload_n 0, 1) := by decide +kernel
theorem dX9_mark_101 : decode cX9_mark 101 = .ok (.iload_n 1, 1) := by decide +kernel
theorem dX9_mark_102 : decode cX9_mark 102 = .ok (.invokevirtual 216, 3) := by decide +kernel
theorem dX9_mark_105 : decode cX9_mark 105 = .ok (.invokestatic 195, 3) := by decide +kernel
theorem dX9_mark_108 : decode cX9_mark 108 = .ok (.ireturn, 1) := by decide +kernel
theorem dX9_taste_0 : decode cX9_taste 0 = .ok (.aload_n 0, 1) := by decide +kernel
theorem dX9_taste_1 : decode cX9_taste 1 = .ok (.iload_n 1, 1) := by decide +kernel
theorem dX9_taste_2 : decode cX9_taste 2 = .ok (.invokevirtual 181, 3) := by decide +kernel
theorem dX9_taste_5 : decode cX9_taste 5 = .ok (.ifCond .eq 15, 3) := by decide +kernel
theorem dX9_taste_8 : decode cX9_taste 8 = .ok (.iload_n 2, 1) := by decide +kernel
theorem dX9_taste_9 : decode cX9_taste 9 = .ok (.i2l, 1) := by decide +kernel
theorem dX9_taste_10 : decode cX9_taste 10 = .ok (.lconst 1, 1) := by decide +kernel
theorem dX9_taste_11 : decode cX9_taste 11 = .ok (.ldc2_w 219, 3) := by decide +kernel
theorem dX9_taste_14 : decode cX9_taste 14 = .ok (.invokestatic 114, 3) := by decide +kernel
theorem dX9_taste_17 : decode cX9_taste 17 = .ok (.ifCond .ne 5, 3) := by decide +kernel
theorem dX9_taste_20 : decode cX9_taste 20 = .ok (.iconst (-1), 1) := by decide +kernel
theorem dX9_taste_21 : decode cX9_taste 21 = .ok (.ireturn, 1) := by decide +kernel
theorem dX9_taste_22 : decode cX9_taste 22 = .ok (.aload_n 0, 1) := by decide +kernel
theorem dX9_taste_23 : decode cX9_taste 23 = .ok (.getfield 13, 3) := by decide +kernel
theorem dX9_taste_26 : decode cX9_taste 26 = .ok (.iload_n 1, 1) := by decide +kernel
theorem dX9_taste_27 : decode cX9_taste 27 = .ok (.iaload, 1) := by decide +kernel
theorem dX9_taste_28 : decode cX9_taste 28 = .ok (.istore_n 3, 1) := by decide +kernel
theorem dX9_taste_29 : decode cX9_taste 29 = .ok (.aload_n 0, 1) := by decide +kernel
theorem dX9_taste_30 : decode cX9_taste 30 = .ok (.getfield 13, 3) := by decide +kernel
theorem dX9_taste_33 : decode cX9_taste 33 = .ok (.iload_n 1, 1) := by decide +kernel
theorem dX9_taste_34 : decode cX9_taste 34 = .ok (.iload_n 2, 1) := by decide +kernel
theorem dX9_taste_35 : decode cX9_taste 35 = .ok (.iastore, 1) := by decide +kernel
theorem dX9_taste_36 : decode cX9_taste 36 = .ok (.iload_n 3, 1) := by decide +kernel
theorem dX9_taste_37 : decode cX9_taste 37 = .ok (.ireturn, 1) := by decide +kernel
theorem dX9_remember_0 : decode cX9_remember 0 = .ok (.iconst 0, 1) := by decide +kernel
theorem dX9_remember_1 : decode cX9_remember 1 = .ok (.istore_n 1, 1) := by decide +kernel
theorem dX9_remember_2 : decode cX9_remember 2 = .ok (.iload_n 1, 1) := by decide +kernel
theorem dX9_remember_3 : decode cX9_remember 3 = .ok (.bipush 7, 2) := by decide +kernel
theorem dX9_remember_5 : decode cX9_remember 5 = .ok (.if_icmp .ge 69, 3) := by decide +kernel
theorem dX9_remember_8 : decode cX9_remember 8 = .ok (.aload_n 0, 1) := by decide +kernel
theorem dX9_remember_9 : decode cX9_remember 9 = .ok (.getfield 25, 3) := by decide +kernel
theorem dX9_remember_12 : decode cX9_remember 12 = .ok (.bipush 7, 2) := by decide +kernel
theorem dX9_remember_14 : decode cX9_remember 14 = .ok (.aload_n 0, 1) := by decide +kernel
theorem dX9_remember_15 : decode cX9_remember 15 = .ok (.getfield 169, 3) := by decide +kernel
theorem dX9_remember_18 : decode cX9_remember 18 = .ok (.imul, 1) := by decide +kernel
theorem dX9_remember_19 : decode cX9_remember 19 = .ok (.iload_n 1, 1) := by decide +kernel
theorem dX9_remember_20 : decode cX9_remember 20 = .ok (.iadd, 1) := by decide +kernel
theorem dX9_remember_21 : decode cX9_remember 21 = .ok (.aload_n 0, 1) := by decide +kernel
theorem dX9_remember_22 : decode cX9_remember 22 = .ok (.getfield 16, 3) := by decide +kernel
theorem dX9_remember_25 : decode cX9_remember 25 = .ok (.iload_n 1, 1) := by decide +kernel
theorem dX9_remember_26 : decode cX9_remember 26 = .ok (.iaload, 1) := by decide +kernel
theorem dX9_remember_27 : decode cX9_remember 27 = .ok (.iastore, 1) := by decide +kernel
theorem dX9_remember_28 : decode cX9_remember 28 = .ok (.aload_n 0, 1) := by decide +kernel
theorem dX9_remember_29 : decode cX9_remember 29 = .ok (.getfield 28, 3) := by decide +kernel
theorem dX9_remember_32 : decode cX9_remember 32 = .ok (.bipush 7, 2) := by decide +kernel
theorem dX9_remember_34 : decode cX9_remember 34 = .ok (.aload_n 0, 1) := by decide +kernel
theorem dX9_remember_35 : decode cX9_remember 35 = .ok (.getfield 169, 3) := by decide +kernel
theorem dX9_remember_38 : decode cX9_remember 38 = .ok (.imul, 1) := by decide +kernel
theorem dX9_remember_39 : decode cX9_remember 39 = .ok (.iload_n 1, 1) := by decide +kernel
theorem dX9_remember_40 : decode cX9_remember 40 = .ok (.iadd, 1) := by decide +kernel
theorem dX9_remember_41 : decode cX9_remember 41 = .ok (.aload_n 0, 1) := by decide +kernel
theorem dX9_remember_42 : decode cX9_remember 42 = .ok (.getfield 19, 3) := by decide +kernel
theorem dX9_remember_45 : decode cX9_remember 45 = .ok (.iload_n 1, 1) := by decide +kernel
theorem dX9_remember_46 : decode cX9_remember 46 = .ok (.iaload, 1) := by decide +kernel
theorem dX9_remember_47 : decode cX9_remember 47 = .ok (.iastore, 1) := by decide +kernel
theorem dX9_remember_48 : decode cX9_remember 48 = .ok (.aload_n 0, 1) := by decide +kernel
theorem dX9_remember_49 : decode cX9_remember 49 = .ok (.getfield 31, 3) := by decide +kernel
theorem dX9_remember_52 : decode cX9_remember 52 = .ok (.bipush 7, 2) := by decide +kernel
theorem dX9_remember_54 : decode cX9_remember 54 = .ok (.aload_n 0, 1) := by decide +kernel
theorem dX9_remember_55 : decode cX9_remember 55 = .ok (.getfield 169, 3) := by decide +kernel
theorem dX9_remember_58 : decode cX9_remember 58 = .ok (.imul, 1) := by decide +kernel
theorem dX9_remember_59 : decode cX9_remember 59 = .ok (.iload_n 1, 1) := by decide +kernel
theorem dX9_remember_60 : decode cX9_remember 60 = .ok (.iadd, 1) := by decide +kernel
theorem dX9_remember_61 : decode cX9_remember 61 = .ok (.aload_n 0, 1) := by decide +kernel
theorem dX9_remember_62 : decode cX9_remember 62 = .ok (.getfield 22, 3) := by decide +kernel
theorem dX9_remember_65 : decode cX9_remember 65 = .ok (.iload_n 1, 1) := by decide +kernel
theorem dX9_remember_66 : decode cX9_remember 66 = .ok (.iaload, 1) := by decide +kernel
theorem dX9_remember_67 : decode cX9_remember 67 = .ok (.iastore, 1) := by decide +kernel
theorem dX9_remember_68 : decode cX9_remember 68 = .ok (.iinc 1 1, 3) := by decide +kernel
theorem dX9_remember_71 : decode cX9_remember 71 = .ok (.goto (-69), 3) := by decide +kernel
theorem dX9_remember_74 : decode cX9_remember 74 = .ok (.aload_n 0, 1) := by decide +kernel
theorem dX9_remember_75 : decode cX9_remember 75 = .ok (.getfield 34, 3) := by decide +kernel
theorem dX9_remember_78 : decode cX9_remember 78 = .ok (.aload_n 0, 1) := by decide +kernel
theorem dX9_remember_79 : decode cX9_remember 79 = .ok (.getfield 169, 3) := by decide +kernel
theorem dX9_remember_82 : decode cX9_remember 82 = .ok (.aload_n 0, 1) := by decide +kernel
theorem dX9_remember_83 : decode cX9_remember 83 = .ok (.getfield 166, 3) := by decide +kernel
theorem dX9_remember_86 : decode cX9_remember 86 = .ok (.iastore, 1) := by decide +kernel
theorem dX9_remember_87 : decode cX9_remember 87 = .ok (.aload_n 0, 1) := by decide +kernel
theorem dX9_remember_88 : decode cX9_remember 88 = .ok (.dup, 1) := by decide +kernel
theorem dX9_remember_89 : decode cX9_remember 89 = .ok (.getfield 169, 3) := by decide +kernel
theorem dX9_remember_92 : decode cX9_remember 92 = .ok (.iconst 1, 1) := by decide +kernel
theorem dX9_remember_93 : decode cX9_remember 93 = .ok (.iadd, 1) := by decide +kernel
theorem dX9_remember_94 : decode cX9_remember 94 = .ok (.putfield 169, 3) := by decide +kernel
theorem dX9_remember_97 : decode cX9_remember 97 = .ok (.return_, 1) := by decide +kernel
theorem dX9_sticks_0 : decode cX9_sticks 0 = .ok (.iload_n 2, 1) := by decide +kernel
theorem dX9_sticks_1 : decode cX9_sticks 1 = .ok (.iconst 1, 1) := by decide +kernel
theorem dX9_sticks_2 : decode cX9_sticks 2 = .ok (.if_icmp .eq 23, 3) := by decide +kernel
theorem dX9_sticks_5 : decode cX9_sticks 5 = .ok (.aload_n 0, 1) := by decide +kernel
theorem dX9_sticks_6 : decode cX9_sticks 6 = .ok (.getfield 7, 3) := by decide +kernel
theorem dX9_sticks_9 : decode cX9_sticks 9 = .ok (.iload_n 1, 1) := by decide +kernel
theorem dX9_sticks_10 : decode cX9_sticks 10 = .ok (.iaload, 1) := by decide +kernel
theorem dX9_sticks_11 : decode cX9_sticks 11 = .ok (.iconst 1, 1) := by decide +kernel
theorem dX9_sticks_12 : decode cX9_sticks 12 = .ok (.if_icmp .eq 17, 3) := by decide +kernel
theorem dX9_sticks_15 : decode cX9_sticks 15 = .ok (.aload_n 0, 1) := by decide +kernel
theorem dX9_sticks_16 : decode cX9_sticks 16 = .ok (.getfield 7, 3) := by decide +kernel
theorem dX9_sticks_19 : decode cX9_sticks 19 = .ok (.iload_n 1, 1) := by decide +kernel
theorem dX9_sticks_20 : decode cX9_sticks 20 = .ok (.iaload, 1) := by decide +kernel
theorem dX9_sticks_21 : decode cX9_sticks 21 = .ok (.iconst 5, 1) := by decide +kernel
theorem dX9_sticks_22 : decode cX9_sticks 22 = .ok (.if_icmp .eq 7, 3) := by decide +kernel
theorem dX9_sticks_25 : decode cX9_sticks 25 = .ok (.iconst 1, 1) := by decide +kernel
theorem dX9_sticks_26 : decode cX9_sticks 26 = .ok (.goto 4, 3) := by decide +kernel
theorem dX9_sticks_29 : decode cX9_sticks 29 = .ok (.iconst 0, 1) := by decide +kernel
theorem dX9_sticks_30 : decode cX9_sticks 30 = .ok (.ireturn, 1) := by decide +kernel
theorem dX9_touch_0 : decode cX9_touch 0 = .ok (.aload_n 0, 1) := by decide +kernel
theorem dX9_touch_1 : decode cX9_touch 1 = .ok (.iload_n 1, 1) := by decide +kernel
theorem dX9_touch_2 : decode cX9_touch 2 = .ok (.invokevirtual 181, 3) := by decide +kernel
theorem dX9_touch_5 : decode cX9_touch 5 = .ok (.ifCond .eq 32, 3) := by decide +kernel
theorem dX9_touch_8 : decode cX9_touch 8 = .ok (.iload_n 2, 1) := by decide +kernel
theorem dX9_touch_9 : decode cX9_touch 9 = .ok (.i2l, 1) := by decide +kernel
theorem dX9_touch_10 : decode cX9_touch 10 = .ok (.lconst 0, 1) := by decide +kernel
theorem dX9_touch_11 : decode cX9_touch 11 = .ok (.lconst 1, 1) := by decide +kernel
theorem dX9_touch_12 : decode cX9_touch 12 = .ok (.invokestatic 114, 3) := by decide +kernel
theorem dX9_touch_15 : decode cX9_touch 15 = .ok (.ifCond .eq 22, 3) := by decide +kernel
theorem dX9_touch_18 : decode cX9_touch 18 = .ok (.iload_n 3, 1) := by decide +kernel
theorem dX9_touch_19 : decode cX9_touch 19 = .ok (.bipush 9, 2) := by decide +kernel
theorem dX9_touch_21 : decode cX9_touch 21 = .ok (.if_icmp .eq 11, 3) := by decide +kernel
theorem dX9_touch_24 : decode cX9_touch 24 = .ok (.aload_n 0, 1) := by decide +kernel
theorem dX9_touch_25 : decode cX9_touch 25 = .ok (.iload_n 3, 1) := by decide +kernel
theorem dX9_touch_26 : decode cX9_touch 26 = .ok (.invokevirtual 181, 3) := by decide +kernel
theorem dX9_touch_29 : decode cX9_touch 29 = .ok (.ifCond .eq 8, 3) := by decide +kernel
theorem dX9_touch_32 : decode cX9_touch 32 = .ok (.iload_n 1, 1) := by decide +kernel
theorem dX9_touch_33 : decode cX9_touch 33 = .ok (.iload_n 3, 1) := by decide +kernel
theorem dX9_touch_34 : decode cX9_touch 34 = .ok (.if_icmp .ne 5, 3) := by decide +kernel
theorem dX9_touch_37 : decode cX9_touch 37 = .ok (.iconst (-1), 1) := by decide +kernel
theorem dX9_touch_38 : decode cX9_touch 38 = .ok (.ireturn, 1) := by decide +kernel
theorem dX9_touch_39 : decode cX9_touch 39 = .ok (.aload_n 0, 1) := by decide +kernel
theorem dX9_touch_40 : decode cX9_touch 40 = .ok (.iload_n 1, 1) := by decide +kernel
theorem dX9_touch_41 : decode cX9_touch 41 = .ok (.invokevirtual 172, 3) := by decide +kernel
theorem dX9_touch_44 : decode cX9_touch 44 = .ok (.ifCond .ne 17, 3) := by decide +kernel
theorem dX9_touch_47 : decode cX9_touch 47 = .ok (.iload_n 3, 1) := by decide +kernel
theorem dX9_touch_48 : decode cX9_touch 48 = .ok (.bipush 9, 2) := by decide +kernel
theorem dX9_touch_50 : decode cX9_touch 50 = .ok (.if_icmp .eq 14, 3) := by decide +kernel
theorem dX9_touch_53 : decode cX9_touch 53 = .ok (.aload_n 0, 1) := by decide +kernel
theorem dX9_touch_54 : decode cX9_touch 54 = .ok (.iload_n 3, 1) := by decide +kernel
theorem dX9_touch_55 : decode cX9_touch 55 = .ok (.invokevirtual 172, 3) := by decide +kernel
theorem dX9_touch_58 : decode cX9_touch 58 = .ok (.ifCond .ne 6, 3) := by decide +kernel
theorem dX9_touch_61 : decode cX9_touch 61 = .ok (.bipush (-4), 2) := by decide +kernel
theorem dX9_touch_63 : decode cX9_touch 63 = .ok (.ireturn, 1) := by decide +kernel
theorem dX9_touch_64 : decode cX9_touch 64 = .ok (.aload_n 0, 1) := by decide +kernel
theorem dX9_touch_65 : decode cX9_touch 65 = .ok (.getfield 169, 3) := by decide +kernel
theorem dX9_touch_68 : decode cX9_touch 68 = .ok (.bipush 60, 2) := by decide +kernel
theorem dX9_touch_70 : decode cX9_touch 70 = .ok (.if_icmp .ne 6, 3) := by decide +kernel
theorem dX9_touch_73 : decode cX9_touch 73 = .ok (.bipush (-2), 2) := by decide +kernel
theorem dX9_touch_75 : decode cX9_touch 75 = .ok (.ireturn, 1) := by decide +kernel
theorem dX9_touch_76 : decode cX9_touch 76 = .ok (.aload_n 0, 1) := by decide +kernel
theorem dX9_touch_77 : decode cX9_touch 77 = .ok (.iload_n 1, 1) := by decide +kernel
theorem dX9_touch_78 : decode cX9_touch 78 = .ok (.iload_n 2, 1) := by decide +kernel
theorem dX9_touch_79 : decode cX9_touch 79 = .ok (.invokevirtual 221, 3) := by decide +kernel
theorem dX9_touch_82 : decode cX9_touch 82 = .ok (.ifCond .ne 5, 3) := by decide +kernel
theorem dX9_touch_85 : decode cX9_touch 85 = .ok (.iconst 0, 1) := by decide +kernel
theorem dX9_touch_86 : decode cX9_touch 86 = .ok (.ireturn, 1) := by decide +kernel
theorem dX9_touch_87 : decode cX9_touch 87 = .ok (.aload_n 0, 1) := by decide +kernel
theorem dX9_touch_88 : decode cX9_touch 88 = .ok (.invokevirtual 224, 3) := by decide +kernel
theorem dX9_touch_91 : decode cX9_touch 91 = .ok (.aload_n 0, 1) := by decide +kernel
theorem dX9_touch_92 : decode cX9_touch 92 = .ok (.getfield 16, 3) := by decide +kernel
theorem dX9_touch_95 : decode cX9_touch 95 = .ok (.iload_n 1, 1) := by decide +kernel
theorem dX9_touch_96 : decode cX9_touch 96 = .ok (.iload_n 3, 1) := by decide +kernel
theorem dX9_touch_97 : decode cX9_touch 97 = .ok (.iastore, 1) := by decide +kernel
theorem dX9_touch_98 : decode cX9_touch 98 = .ok (.aload_n 0, 1) := by decide +kernel
theorem dX9_touch_99 : decode cX9_touch 99 = .ok (.getfield 19, 3) := by decide +kernel
theorem dX9_touch_102 : decode cX9_touch 102 = .ok (.iload_n 1, 1) := by decide +kernel
theorem dX9_touch_103 : decode cX9_touch 103 = .ok (.iload_n 2, 1) := by decide +kernel
theorem dX9_touch_104 : decode cX9_touch 104 = .ok (.iastore, 1) := by decide +kernel
theorem dX9_touch_105 : decode cX9_touch 105 = .ok (.iconst 1, 1) := by decide +kernel
theorem dX9_touch_106 : decode cX9_touch 106 = .ok (.ireturn, 1) := by decide +kernel
theorem dX9_mayLaugh_0 : decode cX9_mayLaugh 0 = .ok (.aload_n 0, 1) := by decide +kernel
theorem dX9_mayLaugh_1 : decode cX9_mayLaugh 1 = .ok (.getfield 7, 3) := by decide +kernel
theorem dX9_mayLaugh_4 : decode cX9_mayLaugh 4 = .ok (.iload_n 1, 1) := by decide +kernel
theorem dX9_mayLaugh_5 : decode cX9_mayLaugh 5 = .ok (.iaload, 1) := by decide +kernel
theorem dX9_mayLaugh_6 : decode cX9_mayLaugh 6 = .ok (.iconst 3, 1) := by decide +kernel
theorem dX9_mayLaugh_7 : decode cX9_mayLaugh 7 = .ok (.if_icmp .ne 16, 3) := by decide +kernel
theorem dX9_mayLaugh_10 : decode cX9_mayLaugh 10 = .ok (.aload_n 0, 1) := by decide +kernel
theorem dX9_mayLaugh_11 : decode cX9_mayLaugh 11 = .ok (.invokevirtual 192, 3) := by decide +kernel
theorem dX9_mayLaugh_14 : decode cX9_mayLaugh 14 = .ok (.ifCond .eq 7, 3) := by decide +kernel
theorem dX9_mayLaugh_17 : decode cX9_mayLaugh 17 = .ok (.iconst 1, 1) := by decide +kernel
theorem dX9_mayLaugh_18 : decode cX9_mayLaugh 18 = .ok (.goto 4, 3) := by decide +kernel
theorem dX9_mayLaugh_21 : decode cX9_mayLaugh 21 = .ok (.iconst 0, 1) := by decide +kernel
theorem dX9_mayLaugh_22 : decode cX9_mayLaugh 22 = .ok (.ireturn, 1) := by decide +kernel
theorem dX9_mayLaugh_23 : decode cX9_mayLaugh 23 = .ok (.aload_n 0, 1) := by decide +kernel
theorem dX9_mayLaugh_24 : decode cX9_mayLaugh 24 = .ok (.iload_n 1, 1) := by decide +kernel
theorem dX9_mayLaugh_25 : decode cX9_mayLaugh 25 = .ok (.invokevirtual 172, 3) := by decide +kernel
theorem dX9_mayLaugh_28 : decode cX9_mayLaugh 28 = .ok (.ifCond .ne 24, 3) := by decide +kernel
theorem dX9_mayLaugh_31 : decode cX9_mayLaugh 31 = .ok (.aload_n 0, 1) := by decide +kernel
theorem dX9_mayLaugh_32 : decode cX9_mayLaugh 32 = .ok (.getfield 166, 3) := by decide +kernel
theorem dX9_mayLaugh_35 : decode cX9_mayLaugh 35 = .ok (.aload_n 0, 1) := by decide +kernel
theorem dX9_mayLaugh_36 : decode cX9_mayLaugh 36 = .ok (.getfield 22, 3) := by decide +kernel
theorem dX9_mayLaugh_39 : decode cX9_mayLaugh 39 = .ok (.iload_n 1, 1) := by decide +kernel
theorem dX9_mayLaugh_40 : decode cX9_mayLaugh 40 = .ok (.iaload, 1) := by decide +kernel
theorem dX9_mayLaugh_41 : decode cX9_mayLaugh 41 = .ok (.isub, 1) := by decide +kernel
theorem dX9_mayLaugh_42 : decode cX9_mayLaugh 42 = .ok (.sipush 365, 3) := by decide +kernel
theorem dX9_mayLaugh_45 : decode cX9_mayLaugh 45 = .ok (.if_icmp .lt 7, 3) := by decide +kernel
theorem dX9_mayLaugh_48 : decode cX9_mayLaugh 48 = .ok (.iconst 1, 1) := by decide +kernel
theorem dX9_mayLaugh_49 : decode cX9_mayLaugh 49 = .ok (.goto 4, 3) := by decide +kernel
theorem dX9_mayLaugh_52 : decode cX9_mayLaugh 52 = .ok (.iconst 0, 1) := by decide +kernel
theorem dX9_mayLaugh_53 : decode cX9_mayLaugh 53 = .ok (.istore_n 2, 1) := by decide +kernel
theorem dX9_mayLaugh_54 : decode cX9_mayLaugh 54 = .ok (.iload_n 2, 1) := by decide +kernel
theorem dX9_mayLaugh_55 : decode cX9_mayLaugh 55 = .ok (.ifCond .eq 47, 3) := by decide +kernel
theorem dX9_mayLaugh_58 : decode cX9_mayLaugh 58 = .ok (.aload_n 0, 1) := by decide +kernel
theorem dX9_mayLaugh_59 : decode cX9_mayLaugh 59 = .ok (.iload_n 1, 1) := by decide +kernel
theorem dX9_mayLaugh_60 : decode cX9_mayLaugh 60 = .ok (.iconst 2, 1) := by decide +kernel
theorem dX9_mayLaugh_61 : decode cX9_mayLaugh 61 = .ok (.invokevirtual 206, 3) := by decide +kernel
theorem dX9_mayLaugh_64 : decode cX9_mayLaugh 64 = .ok (.ifCond .eq 20, 3) := by decide +kernel
theorem dX9_mayLaugh_67 : decode cX9_mayLaugh 67 = .ok (.aload_n 0, 1) := by decide +kernel
theorem dX9_mayLaugh_68 : decode cX9_mayLaugh 68 = .ok (.iload_n 1, 1) := by decide +kernel
theorem dX9_mayLaugh_69 : decode cX9_mayLaugh 69 = .ok (.invokevirtual 198, 3) := by decide +kernel
theorem dX9_mayLaugh_72 : decode cX9_mayLaugh 72 = .ok (.aload_n 0, 1) := by decide +kernel
theorem dX9_mayLaugh_73 : decode cX9_mayLaugh 73 = .ok (.getfield 13, 3) := by decide +kernel
theorem dX9_mayLaugh_76 : decode cX9_mayLaugh 76 = .ok (.iload_n 1, 1) := by decide +kernel
theorem dX9_mayLaugh_77 : decode cX9_mayLaugh 77 = .ok (.iaload, 1) := by decide +kernel
theorem dX9_mayLaugh_78 : decode cX9_mayLaugh 78 = .ok (.if_icmp .le 24, 3) := by decide +kernel
theorem dX9_mayLaugh_81 : decode cX9_mayLaugh 81 = .ok (.goto 17, 3) := by decide +kernel
theorem dX9_mayLaugh_84 : decode cX9_mayLaugh 84 = .ok (.aload_n 0, 1) := by decide +kernel
theorem dX9_mayLaugh_85 : decode cX9_mayLaugh 85 = .ok (.iload_n 1, 1) := by decide +kernel
theorem dX9_mayLaugh_86 : decode cX9_mayLaugh 86 = .ok (.invokevirtual 198, 3) := by decide +kernel
theorem dX9_mayLaugh_89 : decode cX9_mayLaugh 89 = .ok (.aload_n 0, 1) := by decide +kernel
theorem dX9_mayLaugh_90 : decode cX9_mayLaugh 90 = .ok (.getfield 13, 3) := by decide +kernel
theorem dX9_mayLaugh_93 : decode cX9_mayLaugh 93 = .ok (.iload_n 1, 1) := by decide +kernel
theorem dX9_mayLaugh_94 : decode cX9_mayLaugh 94 = .ok (.iaload, 1) := by decide +kernel
theorem dX9_mayLaugh_95 : decode cX9_mayLaugh 95 = .ok (.if_icmp .lt 7, 3) := by decide +kernel
theorem dX9_mayLaugh_98 : decode cX9_mayLaugh 98 = .ok (.iconst 1, 1) := by decide +kernel
theorem dX9_mayLaugh_99 : decode cX9_mayLaugh 99 = .ok (.goto 4, 3) := by decide +kernel
theorem dX9_mayLaugh_102 : decode cX9_mayLaugh 102 = .ok (.iconst 0, 1) := by decide +kernel
theorem dX9_mayLaugh_103 : decode cX9_mayLaugh 103 = .ok (.ireturn, 1) := by decide +kernel
theorem dX9_laugh_0 : decode cX9_laugh 0 = .ok (.aload_n 0, 1) := by decide +kernel
theorem dX9_laugh_1 : decode cX9_laugh 1 = .ok (.iload_n 1, 1) := by decide +kernel
theorem dX9_laugh_2 : decode cX9_laugh 2 = .ok (.invokevirtual 181, 3) := by decide +kernel
theorem dX9_laugh_5 : decode cX9_laugh 5 = .ok (.ifCond .ne 5, 3) := by decide +kernel
theorem dX9_laugh_8 : decode cX9_laugh 8 = .ok (.iconst (-1), 1) := by decide +kernel
theorem dX9_laugh_9 : decode cX9_laugh 9 = .ok (.ireturn, 1) := by decide +kernel
theorem dX9_laugh_10 : decode cX9_laugh 10 = .ok (.aload_n 0, 1) := by decide +kernel
theorem dX9_laugh_11 : decode cX9_laugh 11 = .ok (.iload_n 1, 1) := by decide +kernel
theorem dX9_laugh_12 : decode cX9_laugh 12 = .ok (.invokevirtual 227, 3) := by decide +kernel
theorem dX9_laugh_15 : decode cX9_laugh 15 = .ok (.ifCond .ne 6, 3) := by decide +kernel
theorem dX9_laugh_18 : decode cX9_laugh 18 = .ok (.bipush (-4), 2) := by decide +kernel
theorem dX9_laugh_20 : decode cX9_laugh 20 = .ok (.ireturn, 1) := by decide +kernel
theorem dX9_laugh_21 : decode cX9_laugh 21 = .ok (.aload_n 0, 1) := by decide +kernel
theorem dX9_laugh_22 : decode cX9_laugh 22 = .ok (.getfield 169, 3) := by decide +kernel
theorem dX9_laugh_25 : decode cX9_laugh 25 = .ok (.bipush 60, 2) := by decide +kernel
theorem dX9_laugh_27 : decode cX9_laugh 27 = .ok (.if_icmp .ne 6, 3) := by decide +kernel
theorem dX9_laugh_30 : decode cX9_laugh 30 = .ok (.bipush (-2), 2) := by decide +kernel
theorem dX9_laugh_32 : decode cX9_laugh 32 = .ok (.ireturn, 1) := by decide +kernel
theorem dX9_laugh_33 : decode cX9_laugh 33 = .ok (.aload_n 0, 1) := by decide +kernel
theorem dX9_laugh_34 : decode cX9_laugh 34 = .ok (.invokevirtual 224, 3) := by decide +kernel
theorem dX9_laugh_37 : decode cX9_laugh 37 = .ok (.aload_n 0, 1) := by decide +kernel
theorem dX9_laugh_38 : decode cX9_laugh 38 = .ok (.invokevirtual 192, 3) := by decide +kernel
theorem dX9_laugh_41 : decode cX9_laugh 41 = .ok (.invokestatic 195, 3) := by decide +kernel
theorem dX9_laugh_44 : decode cX9_laugh 44 = .ok (.istore_n 2, 1) := by decide +kernel
theorem dX9_laugh_45 : decode cX9_laugh 45 = .ok (.iconst 0, 1) := by decide +kernel
theorem dX9_laugh_46 : decode cX9_laugh 46 = .ok (.istore_n 3, 1) := by decide +kernel
theorem dX9_laugh_47 : decode cX9_laugh 47 = .ok (.iload_n 3, 1) := by decide +kernel
theorem dX9_laugh_48 : decode cX9_laugh 48 = .ok (.aload_n 0, 1) := by decide +kernel
theorem dX9_laugh_49 : decode cX9_laugh 49 = .ok (.getfield 120, 3) := by decide +kernel
theorem dX9_laugh_52 : decode cX9_laugh 52 = .ok (.if_icmp .ge 25, 3) := by decide +kernel
theorem dX9_laugh_55 : decode cX9_laugh 55 = .ok (.aload_n 0, 1) := by decide +kernel
theorem dX9_laugh_56 : decode cX9_laugh 56 = .ok (.getfield 16, 3) := by decide +kernel
theorem dX9_laugh_59 : decode cX9_laugh 59 = .ok (.iload_n 3, 1) := by decide +kernel
theorem dX9_laugh_60 : decode cX9_laugh 60 = .ok (.bipush (-9), 2) := by decide +kernel
theorem dX9_laugh_62 : decode cX9_laugh 62 = .ok (.iastore, 1) := by decide +kernel
theorem dX9_laugh_63 : decode cX9_laugh 63 = .ok (.aload_n 0, 1) := by decide +kernel
theorem dX9_laugh_64 : decode cX9_laugh 64 = .ok (.getfield 19, 3) := by decide +kernel
theorem dX9_laugh_67 : decode cX9_laugh 67 = .ok (.iload_n 3, 1) := by decide +kernel
theorem dX9_laugh_68 : decode cX9_laugh 68 = .ok (.bipush (-9), 2) := by decide +kernel
theorem dX9_laugh_70 : decode cX9_laugh 70 = .ok (.iastore, 1) := by decide +kernel
theorem dX9_laugh_71 : decode cX9_laugh 71 = .ok (.iinc 3 1, 3) := by decide +kernel
theorem dX9_laugh_74 : decode cX9_laugh 74 = .ok (.goto (-27), 3) := by decide +kernel
theorem dX9_laugh_77 : decode cX9_laugh 77 = .ok (.aload_n 0, 1) := by decide +kernel
theorem dX9_laugh_78 : decode cX9_laugh 78 = .ok (.getfield 22, 3) := by decide +kernel
theorem dX9_laugh_81 : decode cX9_laugh 81 = .ok (.iload_n 1, 1) := by decide +kernel
theorem dX9_laugh_82 : decode cX9_laugh 82 = .ok (.aload_n 0, 1) := by decide +kernel
theorem dX9_laugh_83 : decode cX9_laugh 83 = .ok (.getfield 166, 3) := by decide +kernel
theorem dX9_laugh_86 : decode cX9_laugh 86 = .ok (.iastore, 1) := by decide +kernel
theorem dX9_laugh_87 : decode cX9_laugh 87 = .ok (.iload_n 2, 1) := by decide +kernel
theorem dX9_laugh_88 : decode cX9_laugh 88 = .ok (.ireturn, 1) := by decide +kernel
theorem dX9_days_0 : decode cX9_days 0 = .ok (.iload_n 1, 1) := by decide +kernel
theorem dX9_days_1 : decode cX9_days 1 = .ok (.i2l, 1) := by decide +kernel
theorem dX9_days_2 : decode cX9_days 2 = .ok (.lconst 0, 1) := by decide +kernel
theorem dX9_days_3 : decode cX9_days 3 = .ok (.ldc2_w 230, 3) := by decide +kernel
theorem dX9_days_6 : decode cX9_days 6 = .ok (.invokestatic 114, 3) := by decide +kernel
theorem dX9_days_9 : decode cX9_days 9 = .ok (.ifCond .ne 5, 3) := by decide +kernel
theorem dX9_days_12 : decode cX9_days 12 = .ok (.iconst (-1), 1) := by decide +kernel
theorem dX9_days_13 : decode cX9_days 13 = .ok (.ireturn, 1) := by decide +kernel
theorem dX9_days_14 : decode cX9_days 14 = .ok (.aload_n 0, 1) := by decide +kernel
theorem dX9_days_15 : decode cX9_days 15 = .ok (.getfield 120, 3) := by decide +kernel
theorem dX9_days_18 : decode cX9_days 18 = .ok (.ifCond .ne 6, 3) := by decide +kernel
theorem dX9_days_21 : decode cX9_days 21 = .ok (.bipush (-4), 2) := by decide +kernel
theorem dX9_days_23 : decode cX9_days 23 = .ok (.ireturn, 1) := by decide +kernel
theorem dX9_days_24 : decode cX9_days 24 = .ok (.aload_n 0, 1) := by decide +kernel
theorem dX9_days_25 : decode cX9_days 25 = .ok (.getfield 169, 3) := by decide +kernel
theorem dX9_days_28 : decode cX9_days 28 = .ok (.bipush 60, 2) := by decide +kernel
theorem dX9_days_30 : decode cX9_days 30 = .ok (.if_icmp .eq 15, 3) := by decide +kernel
theorem dX9_days_33 : decode cX9_days 33 = .ok (.aload_n 0, 1) := by decide +kernel
theorem dX9_days_34 : decode cX9_days 34 = .ok (.getfield 166, 3) := by decide +kernel
theorem dX9_days_37 : decode cX9_days 37 = .ok (.iload_n 1, 1) := by decide +kernel
theorem dX9_days_38 : decode cX9_days 38 = .ok (.iadd, 1) := by decide +kernel
theorem dX9_days_39 : decode cX9_days 39 = .ok (.sipush 9999, 3) := by decide +kernel
theorem dX9_days_42 : decode cX9_days 42 = .ok (.if_icmp .le 6, 3) := by decide +kernel
theorem dX9_days_45 : decode cX9_days 45 = .ok (.bipush (-2), 2) := by decide +kernel
theorem dX9_days_47 : decode cX9_days 47 = .ok (.ireturn, 1) := by decide +kernel
theorem dX9_days_48 : decode cX9_days 48 = .ok (.aload_n 0, 1) := by decide +kernel
theorem dX9_days_49 : decode cX9_days 49 = .ok (.invokevirtual 224, 3) := by decide +kernel
theorem dX9_days_52 : decode cX9_days 52 = .ok (.aload_n 0, 1) := by decide +kernel
theorem dX9_days_53 : decode cX9_days 53 = .ok (.dup, 1) := by decide +kernel
theorem dX9_days_54 : decode cX9_days 54 = .ok (.getfield 166, 3) := by decide +kernel
theorem dX9_days_57 : decode cX9_days 57 = .ok (.iload_n 1, 1) := by decide +kernel
theorem dX9_days_58 : decode cX9_days 58 = .ok (.iadd, 1) := by decide +kernel
theorem dX9_days_59 : decode cX9_days 59 = .ok (.putfield 166, 3) := by decide +kernel
theorem dX9_days_62 : decode cX9_days 62 = .ok (.aload_n 0, 1) := by decide +kernel
theorem dX9_days_63 : decode cX9_days 63 = .ok (.getfield 166, 3) := by decide +kernel
theorem dX9_days_66 : decode cX9_days 66 = .ok (.ireturn, 1) := by decide +kernel
theorem dX9_undo_0 : decode cX9_undo 0 = .ok (.iload_n 1, 1) := by decide +kernel
theorem dX9_undo_1 : decode cX9_undo 1 = .ok (.i2l, 1) := by decide +kernel
theorem dX9_undo_2 : decode cX9_undo 2 = .ok (.lconst 0, 1) := by decide +kernel
theorem dX9_undo_3 : decode cX9_undo 3 = .ok (.aload_n 0, 1) := by decide +kernel
theorem dX9_undo_4 : decode cX9_undo 4 = .ok (.getfield 169, 3) := by decide +kernel
theorem dX9_undo_7 : decode cX9_undo 7 = .ok (.i2l, 1) := by decide +kernel
theorem dX9_undo_8 : decode cX9_undo 8 = .ok (.invokestatic 114, 3) := by decide +kernel
theorem dX9_undo_11 : decode cX9_undo 11 = .ok (.ifCond .ne 5, 3) := by decide +kernel
theorem dX9_undo_14 : decode cX9_undo 14 = .ok (.iconst (-1), 1) := by decide +kernel
theorem dX9_undo_15 : decode cX9_undo 15 = .ok (.ireturn, 1) := by decide +kernel
theorem dX9_undo_16 : decode cX9_undo 16 = .ok (.aload_n 0, 1) := by decide +kernel
theorem dX9_undo_17 : decode cX9_undo 17 = .ok (.getfield 169, 3) := by decide +kernel
theorem dX9_undo_20 : decode cX9_undo 20 = .ok (.iload_n 1, 1) := by decide +kernel
theorem dX9_undo_21 : decode cX9_undo 21 = .ok (.isub, 1) := by decide +kernel
theorem dX9_undo_22 : decode cX9_undo 22 = .ok (.istore_n 2, 1) := by decide +kernel
theorem dX9_undo_23 : decode cX9_undo 23 = .ok (.iload_n 2, 1) := by decide +kernel
theorem dX9_undo_24 : decode cX9_undo 24 = .ok (.ifCond .le 83, 3) := by decide +kernel
theorem dX9_undo_27 : decode cX9_undo 27 = .ok (.aload_n 0, 1) := by decide +kernel
theorem dX9_undo_28 : decode cX9_undo 28 = .ok (.iload_n 1, 1) := by decide +kernel
theorem dX9_undo_29 : decode cX9_undo 29 = .ok (.putfield 169, 3) := by decide +kernel
theorem dX9_undo_32 : decode cX9_undo 32 = .ok (.iconst 0, 1) := by decide +kernel
theorem dX9_undo_33 : decode cX9_undo 33 = .ok (.istore_n 3, 1) := by decide +kernel
theorem dX9_undo_34 : decode cX9_undo 34 = .ok (.iload_n 3, 1) := by decide +kernel
theorem dX9_undo_35 : decode cX9_undo 35 = .ok (.bipush 7, 2) := by decide +kernel
theorem dX9_undo_37 : decode cX9_undo 37 = .ok (.if_icmp .ge 60, 3) := by decide +kernel
theorem dX9_undo_40 : decode cX9_undo 40 = .ok (.aload_n 0, 1) := by decide +kernel
theorem dX9_undo_41 : decode cX9_undo 41 = .ok (.getfield 16, 3) := by decide +kernel
theorem dX9_undo_44 : decode cX9_undo 44 = .ok (.iload_n 3, 1) := by decide +kernel
theorem dX9_undo_45 : decode cX9_undo 45 = .ok (.aload_n 0, 1) := by decide +kernel
theorem dX9_undo_46 : decode cX9_undo 46 = .ok (.getfield 25, 3) := by decide +kernel
theorem dX9_undo_49 : decode cX9_undo 49 = .ok (.bipush 7, 2) := by decide +kernel
theorem dX9_undo_51 : decode cX9_undo 51 = .ok (.iload_n 1, 1) := by decide +kernel
theorem dX9_undo_52 : decode cX9_undo 52 = .ok (.imul, 1) := by decide +kernel
theorem dX9_undo_53 : decode cX9_undo 53 = .ok (.iload_n 3, 1) := by decide +kernel
theorem dX9_undo_54 : decode cX9_undo 54 = .ok (.iadd, 1) := by decide +kernel
theorem dX9_undo_55 : decode cX9_undo 55 = .ok (.iaload, 1) := by decide +kernel
theorem dX9_undo_56 : decode cX9_undo 56 = .ok (.iastore, 1) := by decide +kernel
theorem dX9_undo_57 : decode cX9_undo 57 = .ok (.aload_n 0, 1) := by decide +kernel
theorem dX9_undo_58 : decode cX9_undo 58 = .ok (.getfield 19, 3) := by decide +kernel
theorem dX9_undo_61 : decode cX9_undo 61 = .ok (.iload_n 3, 1) := by decide +kernel
theorem dX9_undo_62 : decode cX9_undo 62 = .ok (.aload_n 0, 1) := by decide +kernel
theorem dX9_undo_63 : decode cX9_undo 63 = .ok (.getfield 28, 3) := by decide +kernel
theorem dX9_undo_66 : decode cX9_undo 66 = .ok (.bipush 7, 2) := by decide +kernel
theorem dX9_undo_68 : decode cX9_undo 68 = .ok (.iload_n 1, 1) := by decide +kernel
theorem dX9_undo_69 : decode cX9_undo 69 = .ok (.imul, 1) := by decide +kernel
theorem dX9_undo_70 : decode cX9_undo 70 = .ok (.iload_n 3, 1) := by decide +kernel
theorem dX9_undo_71 : decode cX9_undo 71 = .ok (.iadd, 1) := by decide +kernel
theorem dX9_undo_72 : decode cX9_undo 72 = .ok (.iaload, 1) := by decide +kernel
theorem dX9_undo_73 : decode cX9_undo 73 = .ok (.iastore, 1) := by decide +kernel
theorem dX9_undo_74 : decode cX9_undo 74 = .ok (.aload_n 0, 1) := by decide +kernel
theorem dX9_undo_75 : decode cX9_undo 75 = .ok (.getfield 22, 3) := by decide +kernel
theorem dX9_undo_78 : decode cX9_undo 78 = .ok (.iload_n 3, 1) := by decide +kernel
theorem dX9_undo_79 : decode cX9_undo 79 = .ok (.aload_n 0, 1) := by decide +kernel
theorem dX9_undo_80 : decode cX9_undo 80 = .ok (.getfield 31, 3) := by decide +kernel
theorem dX9_undo_83 : decode cX9_undo 83 = .ok (.bipush 7, 2) := by decide +kernel
theorem dX9_undo_85 : decode cX9_undo 85 = .ok (.iload_n 1, 1) := by decide +kernel
theorem dX9_undo_86 : decode cX9_undo 86 = .ok (.imul, 1) := by decide +kernel
theorem dX9_undo_87 : decode cX9_undo 87 = .ok (.iload_n 3, 1) := by decide +kernel
theorem dX9_undo_88 : decode cX9_undo 88 = .ok (.iadd, 1) := by decide +kernel
theorem dX9_undo_89 : decode cX9_undo 89 = .ok (.iaload, 1) := by decide +kernel
theorem dX9_undo_90 : decode cX9_undo 90 = .ok (.iastore, 1) := by decide +kernel
theorem dX9_undo_91 : decode cX9_undo 91 = .ok (.iinc 3 1, 3) := by decide +kernel
theorem dX9_undo_94 : decode cX9_undo 94 = .ok (.goto (-60), 3) := by decide +kernel
theorem dX9_undo_97 : decode cX9_undo 97 = .ok (.aload_n 0, 1) := by decide +kernel
theorem dX9_undo_98 : decode cX9_undo 98 = .ok (.aload_n 0, 1) := by decide +kernel
theorem dX9_undo_99 : decode cX9_undo 99 = .ok (.getfield 34, 3) := by decide +kernel
theorem dX9_undo_102 : decode cX9_undo 102 = .ok (.iload_n 1, 1) := by decide +kernel
theorem dX9_undo_103 : decode cX9_undo 103 = .ok (.iaload, 1) := by decide +kernel
theorem dX9_undo_104 : decode cX9_undo 104 = .ok (.putfield 166, 3) := by decide +kernel
theorem dX9_undo_107 : decode cX9_undo 107 = .ok (.iload_n 2, 1) := by decide +kernel
theorem dX9_undo_108 : decode cX9_undo 108 = .ok (.ireturn, 1) := by decide +kernel
theorem dX9_stuck_0 : decode cX9_stuck 0 = .ok (.aload_n 0, 1) := by decide +kernel
theorem dX9_stuck_1 : decode cX9_stuck 1 = .ok (.invokevirtual 192, 3) := by decide +kernel
theorem dX9_stuck_4 : decode cX9_stuck 4 = .ok (.ireturn, 1) := by decide +kernel
theorem dX9_canLaugh_0 : decode cX9_canLaugh 0 = .ok (.iconst 0, 1) := by decide +kernel
theorem dX9_canLaugh_1 : decode cX9_canLaugh 1 = .ok (.istore_n 1, 1) := by decide +kernel
theorem dX9_canLaugh_2 : decode cX9_canLaugh 2 = .ok (.iconst 0, 1) := by decide +kernel
theorem dX9_canLaugh_3 : decode cX9_canLaugh 3 = .ok (.istore_n 2, 1) := by decide +kernel
theorem dX9_canLaugh_4 : decode cX9_canLaugh 4 = .ok (.iload_n 2, 1) := by decide +kernel
theorem dX9_canLaugh_5 : decode cX9_canLaugh 5 = .ok (.aload_n 0, 1) := by decide +kernel
theorem dX9_canLaugh_6 : decode cX9_canLaugh 6 = .ok (.getfield 120, 3) := by decide +kernel
theorem dX9_canLaugh_9 : decode cX9_canLaugh 9 = .ok (.if_icmp .ge 27, 3) := by decide +kernel
theorem dX9_canLaugh_12 : decode cX9_canLaugh 12 = .ok (.iload_n 1, 1) := by decide +kernel
theorem dX9_canLaugh_13 : decode cX9_canLaugh 13 = .ok (.aload_n 0, 1) := by decide +kernel
theorem dX9_canLaugh_14 : decode cX9_canLaugh 14 = .ok (.iload_n 2, 1) := by decide +kernel
theorem dX9_canLaugh_15 : decode cX9_canLaugh 15 = .ok (.invokevirtual 227, 3) := by decide +kernel
theorem dX9_canLaugh_18 : decode cX9_canLaugh 18 = .ok (.ifCond .eq 9, 3) := by decide +kernel
theorem dX9_canLaugh_21 : decode cX9_canLaugh 21 = .ok (.iconst 1, 1) := by decide +kernel
theorem dX9_canLaugh_22 : decode cX9_canLaugh 22 = .ok (.iload_n 2, 1) := by decide +kernel
theorem dX9_canLaugh_23 : decode cX9_canLaugh 23 = .ok (.ishl, 1) := by decide +kernel
theorem dX9_canLaugh_24 : decode cX9_canLaugh 24 = .ok (.goto 4, 3) := by decide +kernel
theorem dX9_canLaugh_27 : decode cX9_canLaugh 27 = .ok (.iconst 0, 1) := by decide +kernel
theorem dX9_canLaugh_28 : decode cX9_canLaugh 28 = .ok (.ior, 1) := by decide +kernel
theorem dX9_canLaugh_29 : decode cX9_canLaugh 29 = .ok (.istore_n 1, 1) := by decide +kernel
theorem dX9_canLaugh_30 : decode cX9_canLaugh 30 = .ok (.iinc 2 1, 3) := by decide +kernel
theorem dX9_canLaugh_33 : decode cX9_canLaugh 33 = .ok (.goto (-29), 3) := by decide +kernel
theorem dX9_canLaugh_36 : decode cX9_canLaugh 36 = .ok (.iload_n 1, 1) := by decide +kernel
theorem dX9_canLaugh_37 : decode cX9_canLaugh 37 = .ok (.ireturn, 1) := by decide +kernel
theorem dX9_hang_0 : decode cX9_hang 0 = .ok (.iload_n 1, 1) := by decide +kernel
theorem dX9_hang_1 : decode cX9_hang 1 = .ok (.bipush 9, 2) := by decide +kernel
theorem dX9_hang_3 : decode cX9_hang 3 = .ok (.if_icmp .eq 11, 3) := by decide +kernel
theorem dX9_hang_6 : decode cX9_hang 6 = .ok (.aload_n 0, 1) := by decide +kernel
theorem dX9_hang_7 : decode cX9_hang 7 = .ok (.iload_n 1, 1) := by decide +kernel
theorem dX9_hang_8 : decode cX9_hang 8 = .ok (.invokevirtual 181, 3) := by decide +kernel
theorem dX9_hang_11 : decode cX9_hang 11 = .ok (.ifCond .eq 11, 3) := by decide +kernel
theorem dX9_hang_14 : decode cX9_hang 14 = .ok (.aload_n 0, 1) := by decide +kernel
theorem dX9_hang_15 : decode cX9_hang 15 = .ok (.iload_n 1, 1) := by decide +kernel
theorem dX9_hang_16 : decode cX9_hang 16 = .ok (.invokevirtual 232, 3) := by decide +kernel
theorem dX9_hang_19 : decode cX9_hang 19 = .ok (.goto 4, 3) := by decide +kernel
theorem dX9_hang_22 : decode cX9_hang 22 = .ok (.iconst (-1), 1) := by decide +kernel
theorem dX9_hang_23 : decode cX9_hang 23 = .ok (.ireturn, 1) := by decide +kernel
theorem dX9_behind_0 : decode cX9_behind 0 = .ok (.aload_n 0, 1) := by decide +kernel
theorem dX9_behind_1 : decode cX9_behind 1 = .ok (.iload_n 1, 1) := by decide +kernel
theorem dX9_behind_2 : decode cX9_behind 2 = .ok (.invokevirtual 232, 3) := by decide +kernel
theorem dX9_behind_5 : decode cX9_behind 5 = .ok (.istore_n 2, 1) := by decide +kernel
theorem dX9_behind_6 : decode cX9_behind 6 = .ok (.iload_n 2, 1) := by decide +kernel
theorem dX9_behind_7 : decode cX9_behind 7 = .ok (.ifCond .eq 8, 3) := by decide +kernel
theorem dX9_behind_10 : decode cX9_behind 10 = .ok (.iload_n 2, 1) := by decide +kernel
theorem dX9_behind_11 : decode cX9_behind 11 = .ok (.invokestatic 235, 3) := by decide +kernel
theorem dX9_behind_14 : decode cX9_behind 14 = .ok (.ireturn, 1) := by decide +kernel
theorem dX9_behind_15 : decode cX9_behind 15 = .ok (.iload_n 1, 1) := by decide +kernel
theorem dX9_behind_16 : decode cX9_behind 16 = .ok (.istore_n 3, 1) := by decide +kernel
theorem dX9_behind_17 : decode cX9_behind 17 = .ok (.iload_n 3, 1) := by decide +kernel
theorem dX9_behind_18 : decode cX9_behind 18 = .ok (.bipush 9, 2) := by decide +kernel
theorem dX9_behind_20 : decode cX9_behind 20 = .ok (.if_icmp .eq 46, 3) := by decide +kernel
theorem dX9_behind_23 : decode cX9_behind 23 = .ok (.aload_n 0, 1) := by decide +kernel
theorem dX9_behind_24 : decode cX9_behind 24 = .ok (.aload_n 0, 1) := by decide +kernel
theorem dX9_behind_25 : decode cX9_behind 25 = .ok (.getfield 16, 3) := by decide +kernel
theorem dX9_behind_28 : decode cX9_behind 28 = .ok (.iload_n 3, 1) := by decide +kernel
theorem dX9_behind_29 : decode cX9_behind 29 = .ok (.iaload, 1) := by decide +kernel
theorem dX9_behind_30 : decode cX9_behind 30 = .ok (.invokevirtual 232, 3) := by decide +kernel
theorem dX9_behind_33 : decode cX9_behind 33 = .ok (.iconst 1, 1) := by decide +kernel
theorem dX9_behind_34 : decode cX9_behind 34 = .ok (.iload_n 3, 1) := by decide +kernel
theorem dX9_behind_35 : decode cX9_behind 35 = .ok (.iconst 1, 1) := by decide +kernel
theorem dX9_behind_36 : decode cX9_behind 36 = .ok (.iadd, 1) := by decide +kernel
theorem dX9_behind_37 : decode cX9_behind 37 = .ok (.ishl, 1) := by decide +kernel
theorem dX9_behind_38 : decode cX9_behind 38 = .ok (.iconst 1, 1) := by decide +kernel
theorem dX9_behind_39 : decode cX9_behind 39 = .ok (.isub, 1) := by decide +kernel
theorem dX9_behind_40 : decode cX9_behind 40 = .ok (.iconst (-1), 1) := by decide +kernel
theorem dX9_behind_41 : decode cX9_behind 41 = .ok (.ixor, 1) := by decide +kernel
theorem dX9_behind_42 : decode cX9_behind 42 = .ok (.iand, 1) := by decide +kernel
theorem dX9_behind_43 : decode cX9_behind 43 = .ok (.istore 4, 2) := by decide +kernel
theorem dX9_behind_45 : decode cX9_behind 45 = .ok (.iload 4, 2) := by decide +kernel
theorem dX9_behind_47 : decode cX9_behind 47 = .ok (.ifCond .eq 9, 3) := by decide +kernel
theorem dX9_behind_50 : decode cX9_behind 50 = .ok (.iload 4, 2) := by decide +kernel
theorem dX9_behind_52 : decode cX9_behind 52 = .ok (.invokestatic 235, 3) := by decide +kernel
theorem dX9_behind_55 : decode cX9_behind 55 = .ok (.ireturn, 1) := by decide +kernel
theorem dX9_behind_56 : decode cX9_behind 56 = .ok (.aload_n 0, 1) := by decide +kernel
theorem dX9_behind_57 : decode cX9_behind 57 = .ok (.getfield 16, 3) := by decide +kernel
theorem dX9_behind_60 : decode cX9_behind 60 = .ok (.iload_n 3, 1) := by decide +kernel
theorem dX9_behind_61 : decode cX9_behind 61 = .ok (.iaload, 1) := by decide +kernel
theorem dX9_behind_62 : decode cX9_behind 62 = .ok (.istore_n 3, 1) := by decide +kernel
theorem dX9_behind_63 : decode cX9_behind 63 = .ok (.goto (-46), 3) := by decide +kernel
theorem dX9_behind_66 : decode cX9_behind 66 = .ok (.bipush 9, 2) := by decide +kernel
theorem dX9_behind_68 : decode cX9_behind 68 = .ok (.ireturn, 1) := by decide +kernel
theorem dX9_lowest_0 : decode cX9_lowest 0 = .ok (.iconst 0, 1) := by decide +kernel
theorem dX9_lowest_1 : decode cX9_lowest 1 = .ok (.istore_n 1, 1) := by decide +kernel
theorem dX9_lowest_2 : decode cX9_lowest 2 = .ok (.iload_n 0, 1) := by decide +kernel
theorem dX9_lowest_3 : decode cX9_lowest 3 = .ok (.iload_n 1, 1) := by decide +kernel
theorem dX9_lowest_4 : decode cX9_lowest 4 = .ok (.invokestatic 238, 3) := by decide +kernel
theorem dX9_lowest_7 : decode cX9_lowest 7 = .ok (.ifCond .ne 9, 3) := by decide +kernel
theorem dX9_lowest_10 : decode cX9_lowest 10 = .ok (.iinc 1 1, 3) := by decide +kernel
theorem dX9_lowest_13 : decode cX9_lowest 13 = .ok (.goto (-11), 3) := by decide +kernel
theorem dX9_lowest_16 : decode cX9_lowest 16 = .ok (.iload_n 1, 1) := by decide +kernel
theorem dX9_lowest_17 : decode cX9_lowest 17 = .ok (.ireturn, 1) := by decide +kernel
theorem dX9_train_0 : decode cX9_train 0 = .ok (.iload_n 1, 1) := by decide +kernel
theorem dX9_train_1 : decode cX9_train 1 = .ok (.invokestatic 123, 3) := by decide +kernel
theorem dX9_train_4 : decode cX9_train 4 = .ok (.ifCond .ne 5, 3) := by decide +kernel
theorem dX9_train_7 : decode cX9_train 7 = .ok (.iconst (-1), 1) := by decide +kernel
theorem dX9_train_8 : decode cX9_train 8 = .ok (.ireturn, 1) := by decide +kernel
theorem dX9_train_9 : decode cX9_train 9 = .ok (.aload_n 0, 1) := by decide +kernel
theorem dX9_train_10 : decode cX9_train 10 = .ok (.invokevirtual 192, 3) := by decide +kernel
theorem dX9_train_13 : decode cX9_train 13 = .ok (.invokestatic 195, 3) := by decide +kernel
theorem dX9_train_16 : decode cX9_train 16 = .ok (.istore_n 2, 1) := by decide +kernel
theorem dX9_train_17 : decode cX9_train 17 = .ok (.aload_n 0, 1) := by decide +kernel
theorem dX9_train_18 : decode cX9_train 18 = .ok (.iload_n 1, 1) := by decide +kernel
theorem dX9_train_19 : decode cX9_train 19 = .ok (.iload_n 2, 1) := by decide +kernel
theorem dX9_train_20 : decode cX9_train 20 = .ok (.invokevirtual 241, 3) := by decide +kernel
theorem dX9_train_23 : decode cX9_train 23 = .ok (.istore_n 3, 1) := by decide +kernel
theorem dX9_train_24 : decode cX9_train 24 = .ok (.iload_n 2, 1) := by decide +kernel
theorem dX9_train_25 : decode cX9_train 25 = .ok (.ifCond .ne 8, 3) := by decide +kernel
theorem dX9_train_28 : decode cX9_train 28 = .ok (.bipush 9, 2) := by decide +kernel
theorem dX9_train_30 : decode cX9_train 30 = .ok (.goto 12, 3) := by decide +kernel
theorem dX9_train_33 : decode cX9_train 33 = .ok (.aload_n 0, 1) := by decide +kernel
theorem dX9_train_34 : decode cX9_train 34 = .ok (.bipush 9, 2) := by decide +kernel
theorem dX9_train_36 : decode cX9_train 36 = .ok (.invokevirtual 232, 3) := by decide +kernel
theorem dX9_train_39 : decode cX9_train 39 = .ok (.invokestatic 235, 3) := by decide +kernel
theorem dX9_train_42 : decode cX9_train 42 = .ok (.istore 4, 2) := by decide +kernel
theorem dX9_train_44 : decode cX9_train 44 = .ok (.iconst 0, 1) := by decide +kernel
theorem dX9_train_45 : decode cX9_train 45 = .ok (.istore 5, 2) := by decide +kernel
theorem dX9_train_47 : decode cX9_train 47 = .ok (.iload 5, 2) := by decide +kernel
theorem dX9_train_49 : decode cX9_train 49 = .ok (.iload_n 2, 1) := by decide +kernel
theorem dX9_train_50 : decode cX9_train 50 = .ok (.if_icmp .ge 31, 3) := by decide +kernel
theorem dX9_train_53 : decode cX9_train 53 = .ok (.aload_n 0, 1) := by decide +kernel
theorem dX9_train_54 : decode cX9_train 54 = .ok (.getfield 47, 3) := by decide +kernel
theorem dX9_train_57 : decode cX9_train 57 = .ok (.bipush 40, 2) := by decide +kernel
theorem dX9_train_59 : decode cX9_train 59 = .ok (.iload_n 1, 1) := by decide +kernel
theorem dX9_train_60 : decode cX9_train 60 = .ok (.imul, 1) := by decide +kernel
theorem dX9_train_61 : decode cX9_train 61 = .ok (.iload 5, 2) := by decide +kernel
theorem dX9_train_63 : decode cX9_train 63 = .ok (.iadd, 1) := by decide +kernel
theorem dX9_train_64 : decode cX9_train 64 = .ok (.iload 4, 2) := by decide +kernel
theorem dX9_train_66 : decode cX9_train 66 = .ok (.iastore, 1) := by decide +kernel
theorem dX9_train_67 : decode cX9_train 67 = .ok (.aload_n 0, 1) := by decide +kernel
theorem dX9_train_68 : decode cX9_train 68 = .ok (.iload 4, 2) := by decide +kernel
theorem dX9_train_70 : decode cX9_train 70 = .ok (.invokevirtual 244, 3) := by decide +kernel
theorem dX9_train_73 : decode cX9_train 73 = .ok (.istore 4, 2) := by decide +kernel
theorem dX9_train_75 : decode cX9_train 75 = .ok (.iinc 5 1, 3) := by decide +kernel
theorem dX9_train_78 : decode cX9_train 78 = .ok (.goto (-31), 3) := by decide +kernel
theorem dX9_train_81 : decode cX9_train 81 = .ok (.iload_n 2, 1) := by decide +kernel
theorem dX9_train_82 : decode cX9_train 82 = .ok (.ireturn, 1) := by decide +kernel
theorem dX9_keep_0 : decode cX9_keep 0 = .ok (.iload_n 1, 1) := by decide +kernel
theorem dX9_keep_1 : decode cX9_keep 1 = .ok (.i2l, 1) := by decide +kernel
theorem dX9_keep_2 : decode cX9_keep 2 = .ok (.lconst 0, 1) := by decide +kernel
theorem dX9_keep_3 : decode cX9_keep 3 = .ok (.ldc2_w 247, 3) := by decide +kernel
theorem dX9_keep_6 : decode cX9_keep 6 = .ok (.invokestatic 114, 3) := by decide +kernel
theorem dX9_keep_9 : decode cX9_keep 9 = .ok (.ifCond .ne 5, 3) := by decide +kernel
theorem dX9_keep_12 : decode cX9_keep 12 = .ok (.iconst (-1), 1) := by decide +kernel
theorem dX9_keep_13 : decode cX9_keep 13 = .ok (.ireturn, 1) := by decide +kernel
theorem dX9_keep_14 : decode cX9_keep 14 = .ok (.aload_n 0, 1) := by decide +kernel
theorem dX9_keep_15 : decode cX9_keep 15 = .ok (.getfield 120, 3) := by decide +kernel
theorem dX9_keep_18 : decode cX9_keep 18 = .ok (.ifCond .ne 6, 3) := by decide +kernel
theorem dX9_keep_21 : decode cX9_keep 21 = .ok (.bipush (-4), 2) := by decide +kernel
theorem dX9_keep_23 : decode cX9_keep 23 = .ok (.ireturn, 1) := by decide +kernel
theorem dX9_keep_24 : decode cX9_keep 24 = .ok (.aload_n 0, 1) := by decide +kernel
theorem dX9_keep_25 : decode cX9_keep 25 = .ok (.getfield 56, 3) := by decide +kernel
theorem dX9_keep_28 : decode cX9_keep 28 = .ok (.iload_n 1, 1) := by decide +kernel
theorem dX9_keep_29 : decode cX9_keep 29 = .ok (.aload_n 0, 1) := by decide +kernel
theorem dX9_keep_30 : decode cX9_keep 30 = .ok (.getfield 169, 3) := by decide +kernel
theorem dX9_keep_33 : decode cX9_keep 33 = .ok (.iastore, 1) := by decide +kernel
theorem dX9_keep_34 : decode cX9_keep 34 = .ok (.aload_n 0, 1) := by decide +kernel
theorem dX9_keep_35 : decode cX9_keep 35 = .ok (.getfield 59, 3) := by decide +kernel
theorem dX9_keep_38 : decode cX9_keep 38 = .ok (.iload_n 1, 1) := by decide +kernel
theorem dX9_keep_39 : decode cX9_keep 39 = .ok (.aload_n 0, 1) := by decide +kernel
theorem dX9_keep_40 : decode cX9_keep 40 = .ok (.getfield 166, 3) := by decide +kernel
theorem dX9_keep_43 : decode cX9_keep 43 = .ok (.iastore, 1) := by decide +kernel
theorem dX9_keep_44 : decode cX9_keep 44 = .ok (.iconst 0, 1) := by decide +kernel
theorem dX9_keep_45 : decode cX9_keep 45 = .ok (.istore_n 2, 1) := by decide +kernel
theorem dX9_keep_46 : decode cX9_keep 46 = .ok (.iload_n 2, 1) := by decide +kernel
theorem dX9_keep_47 : decode cX9_keep 47 = .ok (.bipush 7, 2) := by decide +kernel
theorem dX9_keep_49 : decode cX9_keep 49 = .ok (.if_icmp .ge 77, 3) := by decide +kernel
theorem dX9_keep_52 : decode cX9_keep 52 = .ok (.aload_n 0, 1) := by decide +kernel
theorem dX9_keep_53 : decode cX9_keep 53 = .ok (.getfield 62, 3) := by decide +kernel
theorem dX9_keep_56 : decode cX9_keep 56 = .ok (.bipush 7, 2) := by decide +kernel
theorem dX9_keep_58 : decode cX9_keep 58 = .ok (.iload_n 1, 1) := by decide +kernel
theorem dX9_keep_59 : decode cX9_keep 59 = .ok (.imul, 1) := by decide +kernel
theorem dX9_keep_60 : decode cX9_keep 60 = .ok (.iload_n 2, 1) := by decide +kernel
theorem dX9_keep_61 : decode cX9_keep 61 = .ok (.iadd, 1) := by decide +kernel
theorem dX9_keep_62 : decode cX9_keep 62 = .ok (.aload_n 0, 1) := by decide +kernel
theorem dX9_keep_63 : decode cX9_keep 63 = .ok (.getfield 13, 3) := by decide +kernel
theorem dX9_keep_66 : decode cX9_keep 66 = .ok (.iload_n 2, 1) := by decide +kernel
theorem dX9_keep_67 : decode cX9_keep 67 = .ok (.iaload, 1) := by decide +kernel
theorem dX9_keep_68 : decode cX9_keep 68 = .ok (.iastore, 1) := by decide +kernel
theorem dX9_keep_69 : decode cX9_keep 69 = .ok (.aload_n 0, 1) := by decide +kernel
theorem dX9_keep_70 : decode cX9_keep 70 = .ok (.getfield 65, 3) := by decide +kernel
theorem dX9_keep_73 : decode cX9_keep 73 = .ok (.bipush 7, 2) := by decide +kernel
theorem dX9_keep_75 : decode cX9_keep 75 = .ok (.iload_n 1, 1) := by decide +kernel
theorem dX9_keep_76 : decode cX9_keep 76 = .ok (.imul, 1) := by decide +kernel
theorem dX9_keep_77 : decode cX9_keep 77 = .ok (.iload_n 2, 1) := by decide +kernel
theorem dX9_keep_78 : decode cX9_keep 78 = .ok (.iadd, 1) := by decide +kernel
theorem dX9_keep_79 : decode cX9_keep 79 = .ok (.aload_n 0, 1) := by decide +kernel
theorem dX9_keep_80 : decode cX9_keep 80 = .ok (.getfield 16, 3) := by decide +kernel
theorem dX9_keep_83 : decode cX9_keep 83 = .ok (.iload_n 2, 1) := by decide +kernel
theorem dX9_keep_84 : decode cX9_keep 84 = .ok (.iaload, 1) := by decide +kernel
theorem dX9_keep_85 : decode cX9_keep 85 = .ok (.iastore, 1) := by decide +kernel
theorem dX9_keep_86 : decode cX9_keep 86 = .ok (.aload_n 0, 1) := by decide +kernel
theorem dX9_keep_87 : decode cX9_keep 87 = .ok (.getfield 68, 3) := by decide +kernel
theorem dX9_keep_90 : decode cX9_keep 90 = .ok (.bipush 7, 2) := by decide +kernel
theorem dX9_keep_92 : decode cX9_keep 92 = .ok (.iload_n 1, 1) := by decide +kernel
theorem dX9_keep_93 : decode cX9_keep 93 = .ok (.imul, 1) := by decide +kernel
theorem dX9_keep_94 : decode cX9_keep 94 = .ok (.iload_n 2, 1) := by decide +kernel
theorem dX9_keep_95 : decode cX9_keep 95 = .ok (.iadd, 1) := by decide +kernel
theorem dX9_keep_96 : decode cX9_keep 96 = .ok (.aload_n 0, 1) := by decide +kernel
theorem dX9_keep_97 : decode cX9_keep 97 = .ok (.getfield 19, 3) := by decide +kernel
theorem dX9_keep_100 : decode cX9_keep 100 = .ok (.iload_n 2, 1) := by decide +kernel
theorem dX9_keep_101 : decode cX9_keep 101 = .ok (.iaload, 1) := by decide +kernel
theorem dX9_keep_102 : decode cX9_keep 102 = .ok (.iastore, 1) := by decide +kernel
theorem dX9_keep_103 : decode cX9_keep 103 = .ok (.aload_n 0, 1) := by decide +kernel
theorem dX9_keep_104 : decode cX9_keep 104 = .ok (.getfield 71, 3) := by decide +kernel
theorem dX9_keep_107 : decode cX9_keep 107 = .ok (.bipush 7, 2) := by decide +kernel
theorem dX9_keep_109 : decode cX9_keep 109 = .ok (.iload_n 1, 1) := by decide +kernel
theorem dX9_keep_110 : decode cX9_keep 110 = .ok (.imul, 1) := by decide +kernel
theorem dX9_keep_111 : decode cX9_keep 111 = .ok (.iload_n 2, 1) := by decide +kernel
theorem dX9_keep_112 : decode cX9_keep 112 = .ok (.iadd, 1) := by decide +kernel
theorem dX9_keep_113 : decode cX9_keep 113 = .ok (.aload_n 0, 1) := by decide +kernel
theorem dX9_keep_114 : decode cX9_keep 114 = .ok (.getfield 22, 3) := by decide +kernel
theorem dX9_keep_117 : decode cX9_keep 117 = .ok (.iload_n 2, 1) := by decide +kernel
theorem dX9_keep_118 : decode cX9_keep 118 = .ok (.iaload, 1) := by decide +kernel
theorem dX9_keep_119 : decode cX9_keep 119 = .ok (.iastore, 1) := by decide +kernel
theorem dX9_keep_120 : decode cX9_keep 120 = .ok (.iinc 2 1, 3) := by decide +kernel
theorem dX9_keep_123 : decode cX9_keep 123 = .ok (.goto (-77), 3) := by decide +kernel
theorem dX9_keep_126 : decode cX9_keep 126 = .ok (.iconst 0, 1) := by decide +kernel
theorem dX9_keep_127 : decode cX9_keep 127 = .ok (.istore_n 2, 1) := by decide +kernel
theorem dX9_keep_128 : decode cX9_keep 128 = .ok (.iload_n 2, 1) := by decide +kernel
theorem dX9_keep_129 : decode cX9_keep 129 = .ok (.sipush 420, 3) := by decide +kernel
theorem dX9_keep_132 : decode cX9_keep 132 = .ok (.if_icmp .ge 63, 3) := by decide +kernel
theorem dX9_keep_135 : decode cX9_keep 135 = .ok (.aload_n 0, 1) := by decide +kernel
theorem dX9_keep_136 : decode cX9_keep 136 = .ok (.getfield 74, 3) := by decide +kernel
theorem dX9_keep_139 : decode cX9_keep 139 = .ok (.sipush 420, 3) := by decide +kernel
theorem dX9_keep_142 : decode cX9_keep 142 = .ok (.iload_n 1, 1) := by decide +kernel
theorem dX9_keep_143 : decode cX9_keep 143 = .ok (.imul, 1) := by decide +kernel
theorem dX9_keep_144 : decode cX9_keep 144 = .ok (.iload_n 2, 1) := by decide +kernel
theorem dX9_keep_145 : decode cX9_keep 145 = .ok (.iadd, 1) := by decide +kernel
theorem dX9_keep_146 : decode cX9_keep 146 = .ok (.aload_n 0, 1) := by decide +kernel
theorem dX9_keep_147 : decode cX9_keep 147 = .ok (.getfield 25, 3) := by decide +kernel
theorem dX9_keep_150 : decode cX9_keep 150 = .ok (.iload_n 2, 1) := by decide +kernel
theorem dX9_keep_151 : decode cX9_keep 151 = .ok (.iaload, 1) := by decide +kernel
theorem dX9_keep_152 : decode cX9_keep 152 = .ok (.iastore, 1) := by decide +kernel
theorem dX9_keep_153 : decode cX9_keep 153 = .ok (.aload_n 0, 1) := by decide +kernel
theorem dX9_keep_154 : decode cX9_keep 154 = .ok (.getfield 77, 3) := by decide +kernel
theorem dX9_keep_157 : decode cX9_keep 157 = .ok (.sipush 420, 3) := by decide +kernel
theorem dX9_keep_160 : decode cX9_keep 160 = .ok (.iload_n 1, 1) := by decide +kernel
theorem dX9_keep_161 : decode cX9_keep 161 = .ok (.imul, 1) := by decide +kernel
theorem dX9_keep_162 : decode cX9_keep 162 = .ok (.iload_n 2, 1) := by decide +kernel
theorem dX9_keep_163 : decode cX9_keep 163 = .ok (.iadd, 1) := by decide +kernel
theorem dX9_keep_164 : decode cX9_keep 164 = .ok (.aload_n 0, 1) := by decide +kernel
theorem dX9_keep_165 : decode cX9_keep 165 = .ok (.getfield 28, 3) := by decide +kernel
theorem dX9_keep_168 : decode cX9_keep 168 = .ok (.iload_n 2, 1) := by decide +kernel
theorem dX9_keep_169 : decode cX9_keep 169 = .ok (.iaload, 1) := by decide +kernel
theorem dX9_keep_170 : decode cX9_keep 170 = .ok (.iastore, 1) := by decide +kernel
theorem dX9_keep_171 : decode cX9_keep 171 = .ok (.aload_n 0, 1) := by decide +kernel
theorem dX9_keep_172 : decode cX9_keep 172 = .ok (.getfield 80, 3) := by decide +kernel
theorem dX9_keep_175 : decode cX9_keep 175 = .ok (.sipush 420, 3) := by decide +kernel
theorem dX9_keep_178 : decode cX9_keep 178 = .ok (.iload_n 1, 1) := by decide +kernel
theorem dX9_keep_179 : decode cX9_keep 179 = .ok (.imul, 1) := by decide +kernel
theorem dX9_keep_180 : decode cX9_keep 180 = .ok (.iload_n 2, 1) := by decide +kernel
theorem dX9_keep_181 : decode cX9_keep 181 = .ok (.iadd, 1) := by decide +kernel
theorem dX9_keep_182 : decode cX9_keep 182 = .ok (.aload_n 0, 1) := by decide +kernel
theorem dX9_keep_183 : decode cX9_keep 183 = .ok (.getfield 31, 3) := by decide +kernel
theorem dX9_keep_186 : decode cX9_keep 186 = .ok (.iload_n 2, 1) := by decide +kernel
theorem dX9_keep_187 : decode cX9_keep 187 = .ok (.iaload, 1) := by decide +kernel
theorem dX9_keep_188 : decode cX9_keep 188 = .ok (.iastore, 1) := by decide +kernel
theorem dX9_keep_189 : decode cX9_keep 189 = .ok (.iinc 2 1, 3) := by decide +kernel
theorem dX9_keep_192 : decode cX9_keep 192 = .ok (.goto (-64), 3) := by decide +kernel
theorem dX9_keep_195 : decode cX9_keep 195 = .ok (.iconst 0, 1) := by decide +kernel
theorem dX9_keep_196 : decode cX9_keep 196 = .ok (.istore_n 2, 1) := by decide +kernel
theorem dX9_keep_197 : decode cX9_keep 197 = .ok (.iload_n 2, 1) := by decide +kernel
theorem dX9_keep_198 : decode cX9_keep 198 = .ok (.bipush 60, 2) := by decide +kernel
theorem dX9_keep_200 : decode cX9_keep 200 = .ok (.if_icmp .ge 26, 3) := by decide +kernel
theorem dX9_keep_203 : decode cX9_keep 203 = .ok (.aload_n 0, 1) := by decide +kernel
theorem dX9_keep_204 : decode cX9_keep 204 = .ok (.getfield 83, 3) := by decide +kernel
theorem dX9_keep_207 : decode cX9_keep 207 = .ok (.bipush 60, 2) := by decide +kernel
theorem dX9_keep_209 : decode cX9_keep 209 = .ok (.iload_n 1, 1) := by decide +kernel
theorem dX9_keep_210 : decode cX9_keep 210 = .ok (.imul, 1) := by decide +kernel
theorem dX9_keep_211 : decode cX9_keep 211 = .ok (.iload_n 2, 1) := by decide +kernel
theorem dX9_keep_212 : decode cX9_keep 212 = .ok (.iadd, 1) := by decide +kernel
theorem dX9_keep_213 : decode cX9_keep 213 = .ok (.aload_n 0, 1) := by decide +kernel
theorem dX9_keep_214 : decode cX9_keep 214 = .ok (.getfield 34, 3) := by decide +kernel
theorem dX9_keep_217 : decode cX9_keep 217 = .ok (.iload_n 2, 1) := by decide +kernel
theorem dX9_keep_218 : decode cX9_keep 218 = .ok (.iaload, 1) := by decide +kernel
theorem dX9_keep_219 : decode cX9_keep 219 = .ok (.iastore, 1) := by decide +kernel
theorem dX9_keep_220 : decode cX9_keep 220 = .ok (.iinc 2 1, 3) := by decide +kernel
theorem dX9_keep_223 : decode cX9_keep 223 = .ok (.goto (-26), 3) := by decide +kernel
theorem dX9_keep_226 : decode cX9_keep 226 = .ok (.aload_n 0, 1) := by decide +kernel
theorem dX9_keep_227 : decode cX9_keep 227 = .ok (.getfield 169, 3) := by decide +kernel
theorem dX9_keep_230 : decode cX9_keep 230 = .ok (.ireturn, 1) := by decide +kernel
theorem dX9_on_0 : decode cX9_on 0 = .ok (.iload_n 1, 1) := by decide +kernel
theorem dX9_on_1 : decode cX9_on 1 = .ok (.i2l, 1) := by decide +kernel
theorem dX9_on_2 : decode cX9_on 2 = .ok (.lconst 0, 1) := by decide +kernel
theorem dX9_on_3 : decode cX9_on 3 = .ok (.ldc2_w 247, 3) := by decide +kernel
theorem dX9_on_6 : decode cX9_on 6 = .ok (.invokestatic 114, 3) := by decide +kernel
theorem dX9_on_9 : decode cX9_on 9 = .ok (.ifCond .ne 5, 3) := by decide +kernel
theorem dX9_on_12 : decode cX9_on 12 = .ok (.iconst (-1), 1) := by decide +kernel
theorem dX9_on_13 : decode cX9_on 13 = .ok (.ireturn, 1) := by decide +kernel
theorem dX9_on_14 : decode cX9_on 14 = .ok (.aload_n 0, 1) := by decide +kernel
theorem dX9_on_15 : decode cX9_on 15 = .ok (.getfield 56, 3) := by decide +kernel
theorem dX9_on_18 : decode cX9_on 18 = .ok (.iload_n 1, 1) := by decide +kernel
theorem dX9_on_19 : decode cX9_on 19 = .ok (.iaload, 1) := by decide +kernel
theorem dX9_on_20 : decode cX9_on 20 = .ok (.ifCond .ge 9, 3) := by decide +kernel
theorem dX9_on_23 : decode cX9_on 23 = .ok (.aload_n 0, 1) := by decide +kernel
theorem dX9_on_24 : decode cX9_on 24 = .ok (.iconst 1, 1) := by decide +kernel
theorem dX9_on_25 : decode cX9_on 25 = .ok (.invokevirtual 127, 3) := by decide +kernel
theorem dX9_on_28 : decode cX9_on 28 = .ok (.ireturn, 1) := by decide +kernel
theorem dX9_on_29 : decode cX9_on 29 = .ok (.aload_n 0, 1) := by decide +kernel
theorem dX9_on_30 : decode cX9_on 30 = .ok (.aload_n 0, 1) := by decide +kernel
theorem dX9_on_31 : decode cX9_on 31 = .ok (.getfield 56, 3) := by decide +kernel
theorem dX9_on_34 : decode cX9_on 34 = .ok (.iload_n 1, 1) := by decide +kernel
theorem dX9_on_35 : decode cX9_on 35 = .ok (.iaload, 1) := by decide +kernel
theorem dX9_on_36 : decode cX9_on 36 = .ok (.putfield 169, 3) := by decide +kernel
theorem dX9_on_39 : decode cX9_on 39 = .ok (.aload_n 0, 1) := by decide +kernel
theorem dX9_on_40 : decode cX9_on 40 = .ok (.aload_n 0, 1) := by decide +kernel
theorem dX9_on_41 : decode cX9_on 41 = .ok (.getfield 59, 3) := by decide +kernel
theorem dX9_on_44 : decode cX9_on 44 = .ok (.iload_n 1, 1) := by decide +kernel
theorem dX9_on_45 : decode cX9_on 45 = .ok (.iaload, 1) := by decide +kernel
theorem dX9_on_46 : decode cX9_on 46 = .ok (.putfield 166, 3) := by decide +kernel
theorem dX9_on_49 : decode cX9_on 49 = .ok (.iconst 0, 1) := by decide +kernel
theorem dX9_on_50 : decode cX9_on 50 = .ok (.istore_n 2, 1) := by decide +kernel
theorem dX9_on_51 : decode cX9_on 51 = .ok (.iload_n 2, 1) := by decide +kernel
theorem dX9_on_52 : decode cX9_on 52 = .ok (.bipush 7, 2) := by decide +kernel
theorem dX9_on_54 : decode cX9_on 54 = .ok (.if_icmp .ge 77, 3) := by decide +kernel
theorem dX9_on_57 : decode cX9_on 57 = .ok (.aload_n 0, 1) := by decide +kernel
theorem dX9_on_58 : decode cX9_on 58 = .ok (.getfield 13, 3) := by decide +kernel
theorem dX9_on_61 : decode cX9_on 61 = .ok (.iload_n 2, 1) := by decide +kernel
theorem dX9_on_62 : decode cX9_on 62 = .ok (.aload_n 0, 1) := by decide +kernel
theorem dX9_on_63 : decode cX9_on 63 = .ok (.getfield 62, 3) := by decide +kernel
theorem dX9_on_66 : decode cX9_on 66 = .ok (.bipush 7, 2) := by decide +kernel
theorem dX9_on_68 : decode cX9_on 68 = .ok (.iload_n 1, 1) := by decide +kernel
theorem dX9_on_69 : decode cX9_on 69 = .ok (.imul, 1) := by decide +kernel
theorem dX9_on_70 : decode cX9_on 70 = .ok (.iload_n 2, 1) := by decide +kernel
theorem dX9_on_71 : decode cX9_on 71 = .ok (.iadd, 1) := by decide +kernel
theorem dX9_on_72 : decode cX9_on 72 = .ok (.iaload, 1) := by decide +kernel
theorem dX9_on_73 : decode cX9_on 73 = .ok (.iastore, 1) := by decide +kernel
theorem dX9_on_74 : decode cX9_on 74 = .ok (.aload_n 0, 1) := by decide +kernel
theorem dX9_on_75 : decode cX9_on 75 = .ok (.getfield 16, 3) := by decide +kernel
theorem dX9_on_78 : decode cX9_on 78 = .ok (.iload_n 2, 1) := by decide +kernel
theorem dX9_on_79 : decode cX9_on 79 = .ok (.aload_n 0, 1) := by decide +kernel
theorem dX9_on_80 : decode cX9_on 80 = .ok (.getfield 65, 3) := by decide +kernel
theorem dX9_on_83 : decode cX9_on 83 = .ok (.bipush 7, 2) := by decide +kernel
theorem dX9_on_85 : decode cX9_on 85 = .ok (.iload_n 1, 1) := by decide +kernel
theorem dX9_on_86 : decode cX9_on 86 = .ok (.imul, 1) := by decide +kernel
theorem dX9_on_87 : decode cX9_on 87 = .ok (.iload_n 2, 1) := by decide +kernel
theorem dX9_on_88 : decode cX9_on 88 = .ok (.iadd, 1) := by decide +kernel
theorem dX9_on_89 : decode cX9_on 89 = .ok (.iaload, 1) := by decide +kernel
theorem dX9_on_90 : decode cX9_on 90 = .ok (.iastore, 1) := by decide +kernel
theorem dX9_on_91 : decode cX9_on 91 = .ok (.aload_n 0, 1) := by decide +kernel
theorem dX9_on_92 : decode cX9_on 92 = .ok (.getfield 19, 3) := by decide +kernel
theorem dX9_on_95 : decode cX9_on 95 = .ok (.iload_n 2, 1) := by decide +kernel
theorem dX9_on_96 : decode cX9_on 96 = .ok (.aload_n 0, 1) := by decide +kernel
theorem dX9_on_97 : decode cX9_on 97 = .ok (.getfield 68, 3) := by decide +kernel
theorem dX9_on_100 : decode cX9_on 100 = .ok (.bipush 7, 2) := by decide +kernel
theorem dX9_on_102 : decode cX9_on 102 = .ok (.iload_n 1, 1) := by decide +kernel
theorem dX9_on_103 : decode cX9_on 103 = .ok (.imul, 1) := by decide +kernel
theorem dX9_on_104 : decode cX9_on 104 = .ok (.iload_n 2, 1) := by decide +kernel
theorem dX9_on_105 : decode cX9_on 105 = .ok (.iadd, 1) := by decide +kernel
theorem dX9_on_106 : decode cX9_on 106 = .ok (.iaload, 1) := by decide +kernel
theorem dX9_on_107 : decode cX9_on 107 = .ok (.iastore, 1) := by decide +kernel
theorem dX9_on_108 : decode cX9_on 108 = .ok (.aload_n 0, 1) := by decide +kernel
theorem dX9_on_109 : decode cX9_on 109 = .ok (.getfield 22, 3) := by decide +kernel
theorem dX9_on_112 : decode cX9_on 112 = .ok (.iload_n 2, 1) := by decide +kernel
theorem dX9_on_113 : decode cX9_on 113 = .ok (.aload_n 0, 1) := by decide +kernel
theorem dX9_on_114 : decode cX9_on 114 = .ok (.getfield 71, 3) := by decide +kernel
theorem dX9_on_117 : decode cX9_on 117 = .ok (.bipush 7, 2) := by decide +kernel
theorem dX9_on_119 : decode cX9_on 119 = .ok (.iload_n 1, 1) := by decide +kernel
theorem dX9_on_120 : decode cX9_on 120 = .ok (.imul, 1) := by decide +kernel
theorem dX9_on_121 : decode cX9_on 121 = .ok (.iload_n 2, 1) := by decide +kernel
theorem dX9_on_122 : decode cX9_on 122 = .ok (.iadd, 1) := by decide +kernel
theorem dX9_on_123 : decode cX9_on 123 = .ok (.iaload, 1) := by decide +kernel
theorem dX9_on_124 : decode cX9_on 124 = .ok (.iastore, 1) := by decide +kernel
theorem dX9_on_125 : decode cX9_on 125 = .ok (.iinc 2 1, 3) := by decide +kernel
theorem dX9_on_128 : decode cX9_on 128 = .ok (.goto (-77), 3) := by decide +kernel
theorem dX9_on_131 : decode cX9_on 131 = .ok (.iconst 0, 1) := by decide +kernel
theorem dX9_on_132 : decode cX9_on 132 = .ok (.istore_n 2, 1) := by decide +kernel
theorem dX9_on_133 : decode cX9_on 133 = .ok (.iload_n 2, 1) := by decide +kernel
theorem dX9_on_134 : decode cX9_on 134 = .ok (.sipush 420, 3) := by decide +kernel
theorem dX9_on_137 : decode cX9_on 137 = .ok (.if_icmp .ge 63, 3) := by decide +kernel
theorem dX9_on_140 : decode cX9_on 140 = .ok (.aload_n 0, 1) := by decide +kernel
theorem dX9_on_141 : decode cX9_on 141 = .ok (.getfield 25, 3) := by decide +kernel
theorem dX9_on_144 : decode cX9_on 144 = .ok (.iload_n 2, 1) := by decide +kernel
theorem dX9_on_145 : decode cX9_on 145 = .ok (.aload_n 0, 1) := by decide +kernel
theorem dX9_on_146 : decode cX9_on 146 = .ok (.getfield 74, 3) := by decide +kernel
theorem dX9_on_149 : decode cX9_on 149 = .ok (.sipush 420, 3) := by decide +kernel
theorem dX9_on_152 : decode cX9_on 152 = .ok (.iload_n 1, 1) := by decide +kernel
theorem dX9_on_153 : decode cX9_on 153 = .ok (.imul, 1) := by decide +kernel
theorem dX9_on_154 : decode cX9_on 154 = .ok (.iload_n 2, 1) := by decide +kernel
theorem dX9_on_155 : decode cX9_on 155 = .ok (.iadd, 1) := by decide +kernel
theorem dX9_on_156 : decode cX9_on 156 = .ok (.iaload, 1) := by decide +kernel
theorem dX9_on_157 : decode cX9_on 157 = .ok (.iastore, 1) := by decide +kernel
theorem dX9_on_158 : decode cX9_on 158 = .ok (.aload_n 0, 1) := by decide +kernel
theorem dX9_on_159 : decode cX9_on 159 = .ok (.getfield 28, 3) := by decide +kernel
theorem dX9_on_162 : decode cX9_on 162 = .ok (.iload_n 2, 1) := by decide +kernel
theorem dX9_on_163 : decode cX9_on 163 = .ok (.aload_n 0, 1) := by decide +kernel
theorem dX9_on_164 : decode cX9_on 164 = .ok (.getfield 77, 3) := by decide +kernel
theorem dX9_on_167 : decode cX9_on 167 = .ok (.sipush 420, 3) := by decide +kernel
theorem dX9_on_170 : decode cX9_on 170 = .ok (.iload_n 1, 1) := by decide +kernel
theorem dX9_on_171 : decode cX9_on 171 = .ok (.imul, 1) := by decide +kernel
theorem dX9_on_172 : decode cX9_on 172 = .ok (.iload_n 2, 1) := by decide +kernel
theorem dX9_on_173 : decode cX9_on 173 = .ok (.iadd, 1) := by decide +kernel
theorem dX9_on_174 : decode cX9_on 174 = .ok (.iaload, 1) := by decide +kernel
theorem dX9_on_175 : decode cX9_on 175 = .ok (.iastore, 1) := by decide +kernel
theorem dX9_on_176 : decode cX9_on 176 = .ok (.aload_n 0, 1) := by decide +kernel
theorem dX9_on_177 : decode cX9_on 177 = .ok (.getfield 31, 3) := by decide +kernel
theorem dX9_on_180 : decode cX9_on 180 = .ok (.iload_n 2, 1) := by decide +kernel
theorem dX9_on_181 : decode cX9_on 181 = .ok (.aload_n 0, 1) := by decide +kernel
theorem dX9_on_182 : decode cX9_on 182 = .ok (.getfield 80, 3) := by decide +kernel
theorem dX9_on_185 : decode cX9_on 185 = .ok (.sipush 420, 3) := by decide +kernel
theorem dX9_on_188 : decode cX9_on 188 = .ok (.iload_n 1, 1) := by decide +kernel
theorem dX9_on_189 : decode cX9_on 189 = .ok (.imul, 1) := by decide +kernel
theorem dX9_on_190 : decode cX9_on 190 = .ok (.iload_n 2, 1) := by decide +kernel
theorem dX9_on_191 : decode cX9_on 191 = .ok (.iadd, 1) := by decide +kernel
theorem dX9_on_192 : decode cX9_on 192 = .ok (.iaload, 1) := by decide +kernel
theorem dX9_on_193 : decode cX9_on 193 = .ok (.iastore, 1) := by decide +kernel
theorem dX9_on_194 : decode cX9_on 194 = .ok (.iinc 2 1, 3) := by decide +kernel
theorem dX9_on_197 : decode cX9_on 197 = .ok (.goto (-64), 3) := by decide +kernel
theorem dX9_on_200 : decode cX9_on 200 = .ok (.iconst 0, 1) := by decide +kernel
theorem dX9_on_201 : decode cX9_on 201 = .ok (.istore_n 2, 1) := by decide +kernel
theorem dX9_on_202 : decode cX9_on 202 = .ok (.iload_n 2, 1) := by decide +kernel
theorem dX9_on_203 : decode cX9_on 203 = .ok (.bipush 60, 2) := by decide +kernel
theorem dX9_on_205 : decode cX9_on 205 = .ok (.if_icmp .ge 26, 3) := by decide +kernel
theorem dX9_on_208 : decode cX9_on 208 = .ok (.aload_n 0, 1) := by decide +kernel
theorem dX9_on_209 : decode cX9_on 209 = .ok (.getfield 34, 3) := by decide +kernel
theorem dX9_on_212 : decode cX9_on 212 = .ok (.iload_n 2, 1) := by decide +kernel
theorem dX9_on_213 : decode cX9_on 213 = .ok (.aload_n 0, 1) := by decide +kernel
theorem dX9_on_214 : decode cX9_on 214 = .ok (.getfield 83, 3) := by decide +kernel
theorem dX9_on_217 : decode cX9_on 217 = .ok (.bipush 60, 2) := by decide +kernel
theorem dX9_on_219 : decode cX9_on 219 = .ok (.iload_n 1, 1) := by decide +kernel
theorem dX9_on_220 : decode cX9_on 220 = .ok (.imul, 1) := by decide +kernel
theorem dX9_on_221 : decode cX9_on 221 = .ok (.iload_n 2, 1) := by decide +kernel
theorem dX9_on_222 : decode cX9_on 222 = .ok (.iadd, 1) := by decide +kernel
theorem dX9_on_223 : decode cX9_on 223 = .ok (.iaload, 1) := by decide +kernel
theorem dX9_on_224 : decode cX9_on 224 = .ok (.iastore, 1) := by decide +kernel
theorem dX9_on_225 : decode cX9_on 225 = .ok (.iinc 2 1, 3) := by decide +kernel
theorem dX9_on_228 : decode cX9_on 228 = .ok (.goto (-26), 3) := by decide +kernel
theorem dX9_on_231 : decode cX9_on 231 = .ok (.aload_n 0, 1) := by decide +kernel
theorem dX9_on_232 : decode cX9_on 232 = .ok (.getfield 169, 3) := by decide +kernel
theorem dX9_on_235 : decode cX9_on 235 = .ok (.ireturn, 1) := by decide +kernel
theorem dX9_tooMany_0 : decode cX9_tooMany 0 = .ok (.aload_n 0, 1) := by decide +kernel
theorem dX9_tooMany_1 : decode cX9_tooMany 1 = .ok (.bipush 9, 2) := by decide +kernel
theorem dX9_tooMany_3 : decode cX9_tooMany 3 = .ok (.invokevirtual 232, 3) := by decide +kernel
theorem dX9_tooMany_6 : decode cX9_tooMany 6 = .ok (.invokestatic 195, 3) := by decide +kernel
theorem dX9_tooMany_9 : decode cX9_tooMany 9 = .ok (.iload_n 1, 1) := by decide +kernel
theorem dX9_tooMany_10 : decode cX9_tooMany 10 = .ok (.if_icmp .le 6, 3) := by decide +kernel
theorem dX9_tooMany_13 : decode cX9_tooMany 13 = .ok (.bipush 9, 2) := by decide +kernel
theorem dX9_tooMany_15 : decode cX9_tooMany 15 = .ok (.ireturn, 1) := by decide +kernel
theorem dX9_tooMany_16 : decode cX9_tooMany 16 = .ok (.iconst 0, 1) := by decide +kernel
theorem dX9_tooMany_17 : decode cX9_tooMany 17 = .ok (.istore_n 2, 1) := by decide +kernel
theorem dX9_tooMany_18 : decode cX9_tooMany 18 = .ok (.iload_n 2, 1) := by decide +kernel
theorem dX9_tooMany_19 : decode cX9_tooMany 19 = .ok (.aload_n 0, 1) := by decide +kernel
theorem dX9_tooMany_20 : decode cX9_tooMany 20 = .ok (.getfield 120, 3) := by decide +kernel
theorem dX9_tooMany_23 : decode cX9_tooMany 23 = .ok (.if_icmp .ge 23, 3) := by decide +kernel
theorem dX9_tooMany_26 : decode cX9_tooMany 26 = .ok (.aload_n 0, 1) := by decide +kernel
theorem dX9_tooMany_27 : decode cX9_tooMany 27 = .ok (.iload_n 2, 1) := by decide +kernel
theorem dX9_tooMany_28 : decode cX9_tooMany 28 = .ok (.invokevirtual 232, 3) := by decide +kernel
theorem dX9_tooMany_31 : decode cX9_tooMany 31 = .ok (.invokestatic 195, 3) := by decide +kernel
theorem dX9_tooMany_34 : decode cX9_tooMany 34 = .ok (.iload_n 1, 1) := by decide +kernel
theorem dX9_tooMany_35 : decode cX9_tooMany 35 = .ok (.if_icmp .le 5, 3) := by decide +kernel
theorem dX9_tooMany_38 : decode cX9_tooMany 38 = .ok (.iload_n 2, 1) := by decide +kernel
theorem dX9_tooMany_39 : decode cX9_tooMany 39 = .ok (.ireturn, 1) := by decide +kernel
theorem dX9_tooMany_40 : decode cX9_tooMany 40 = .ok (.iinc 2 1, 3) := by decide +kernel
theorem dX9_tooMany_43 : decode cX9_tooMany 43 = .ok (.goto (-25), 3) := by decide +kernel
theorem dX9_tooMany_46 : decode cX9_tooMany 46 = .ok (.bipush (-9), 2) := by decide +kernel
theorem dX9_tooMany_48 : decode cX9_tooMany 48 = .ok (.ireturn, 1) := by decide +kernel
theorem dX9_door_0 : decode cX9_door 0 = .ok (.iload_n 1, 1) := by decide +kernel
theorem dX9_door_1 : decode cX9_door 1 = .ok (.i2l, 1) := by decide +kernel
theorem dX9_door_2 : decode cX9_door 2 = .ok (.lconst 0, 1) := by decide +kernel
theorem dX9_door_3 : decode cX9_door 3 = .ok (.ldc2_w 249, 3) := by decide +kernel
theorem dX9_door_6 : decode cX9_door 6 = .ok (.invokestatic 114, 3) := by decide +kernel
theorem dX9_door_9 : decode cX9_door 9 = .ok (.ifCond .eq 11, 3) := by decide +kernel
theorem dX9_door_12 : decode cX9_door 12 = .ok (.aload_n 0, 1) := by decide +kernel
theorem dX9_door_13 : decode cX9_door 13 = .ok (.iload_n 1, 1) := by decide +kernel
theorem dX9_door_14 : decode cX9_door 14 = .ok (.invokevirtual 251, 3) := by decide +kernel
theorem dX9_door_17 : decode cX9_door 17 = .ok (.goto 4, 3) := by decide +kernel
theorem dX9_door_20 : decode cX9_door 20 = .ok (.iconst (-1), 1) := by decide +kernel
theorem dX9_door_21 : decode cX9_door 21 = .ok (.ireturn, 1) := by decide +kernel
theorem dX9_tooDeep_0 : decode cX9_tooDeep 0 = .ok (.iconst 0, 1) := by decide +kernel
theorem dX9_tooDeep_1 : decode cX9_tooDeep 1 = .ok (.istore_n 2, 1) := by decide +kernel
theorem dX9_tooDeep_2 : decode cX9_tooDeep 2 = .ok (.iconst 0, 1) := by decide +kernel
theorem dX9_tooDeep_3 : decode cX9_tooDeep 3 = .ok (.istore_n 3, 1) := by decide +kernel
theorem dX9_tooDeep_4 : decode cX9_tooDeep 4 = .ok (.iload_n 3, 1) := by decide +kernel
theorem dX9_tooDeep_5 : decode cX9_tooDeep 5 = .ok (.aload_n 0, 1) := by decide +kernel
theorem dX9_tooDeep_6 : decode cX9_tooDeep 6 = .ok (.getfield 120, 3) := by decide +kernel
theorem dX9_tooDeep_9 : decode cX9_tooDeep 9 = .ok (.if_icmp .ge 28, 3) := by decide +kernel
theorem dX9_tooDeep_12 : decode cX9_tooDeep 12 = .ok (.iload_n 2, 1) := by decide +kernel
theorem dX9_tooDeep_13 : decode cX9_tooDeep 13 = .ok (.aload_n 0, 1) := by decide +kernel
theorem dX9_tooDeep_14 : decode cX9_tooDeep 14 = .ok (.iload_n 3, 1) := by decide +kernel
theorem dX9_tooDeep_15 : decode cX9_tooDeep 15 = .ok (.invokevirtual 175, 3) := by decide +kernel
theorem dX9_tooDeep_18 : decode cX9_tooDeep 18 = .ok (.iload_n 1, 1) := by decide +kernel
theorem dX9_tooDeep_19 : decode cX9_tooDeep 19 = .ok (.if_icmp .le 9, 3) := by decide +kernel
theorem dX9_tooDeep_22 : decode cX9_tooDeep 22 = .ok (.iconst 1, 1) := by decide +kernel
theorem dX9_tooDeep_23 : decode cX9_tooDeep 23 = .ok (.iload_n 3, 1) := by decide +kernel
theorem dX9_tooDeep_24 : decode cX9_tooDeep 24 = .ok (.ishl, 1) := by decide +kernel
theorem dX9_tooDeep_25 : decode cX9_tooDeep 25 = .ok (.goto 4, 3) := by decide +kernel
theorem dX9_tooDeep_28 : decode cX9_tooDeep 28 = .ok (.iconst 0, 1) := by decide +kernel
theorem dX9_tooDeep_29 : decode cX9_tooDeep 29 = .ok (.ior, 1) := by decide +kernel
theorem dX9_tooDeep_30 : decode cX9_tooDeep 30 = .ok (.istore_n 2, 1) := by decide +kernel
theorem dX9_tooDeep_31 : decode cX9_tooDeep 31 = .ok (.iinc 3 1, 3) := by decide +kernel
theorem dX9_tooDeep_34 : decode cX9_tooDeep 34 = .ok (.goto (-30), 3) := by decide +kernel
theorem dX9_tooDeep_37 : decode cX9_tooDeep 37 = .ok (.iload_n 2, 1) := by decide +kernel
theorem dX9_tooDeep_38 : decode cX9_tooDeep 38 = .ok (.ireturn, 1) := by decide +kernel
theorem dX9_stairs_0 : decode cX9_stairs 0 = .ok (.iload_n 1, 1) := by decide +kernel
theorem dX9_stairs_1 : decode cX9_stairs 1 = .ok (.i2l, 1) := by decide +kernel
theorem dX9_stairs_2 : decode cX9_stairs 2 = .ok (.lconst 0, 1) := by decide +kernel
theorem dX9_stairs_3 : decode cX9_stairs 3 = .ok (.ldc2_w 249, 3) := by decide +kernel
theorem dX9_stairs_6 : decode cX9_stairs 6 = .ok (.invokestatic 114, 3) := by decide +kernel
theorem dX9_stairs_9 : decode cX9_stairs 9 = .ok (.ifCond .eq 11, 3) := by decide +kernel
theorem dX9_stairs_12 : decode cX9_stairs 12 = .ok (.aload_n 0, 1) := by decide +kernel
theorem dX9_stairs_13 : decode cX9_stairs 13 = .ok (.iload_n 1, 1) := by decide +kernel
theorem dX9_stairs_14 : decode cX9_stairs 14 = .ok (.invokevirtual 254, 3) := by decide +kernel
theorem dX9_stairs_17 : decode cX9_stairs 17 = .ok (.goto 4, 3) := by decide +kernel
theorem dX9_stairs_20 : decode cX9_stairs 20 = .ok (.iconst (-1), 1) := by decide +kernel
theorem dX9_stairs_21 : decode cX9_stairs 21 = .ok (.ireturn, 1) := by decide +kernel
theorem dX9_areNumbers_0 : decode cX9_areNumbers 0 = .ok (.iload_n 0, 1) := by decide +kernel
theorem dX9_areNumbers_1 : decode cX9_areNumbers 1 = .ok (.i2l, 1) := by decide +kernel
theorem dX9_areNumbers_2 : decode cX9_areNumbers 2 = .ok (.lconst 0, 1) := by decide +kernel
theorem dX9_areNumbers_3 : decode cX9_areNumbers 3 = .ok (.ldc2_w 249, 3) := by decide +kernel
theorem dX9_areNumbers_6 : decode cX9_areNumbers 6 = .ok (.invokestatic 114, 3) := by decide +kernel
theorem dX9_areNumbers_9 : decode cX9_areNumbers 9 = .ok (.ifCond .eq 19, 3) := by decide +kernel
theorem dX9_areNumbers_12 : decode cX9_areNumbers 12 = .ok (.iload_n 1, 1) := by decide +kernel
theorem dX9_areNumbers_13 : decode cX9_areNumbers 13 = .ok (.i2l, 1) := by decide +kernel
theorem dX9_areNumbers_14 : decode cX9_areNumbers 14 = .ok (.lconst 0, 1) := by decide +kernel
theorem dX9_areNumbers_15 : decode cX9_areNumbers 15 = .ok (.ldc2_w 249, 3) := by decide +kernel
theorem dX9_areNumbers_18 : decode cX9_areNumbers 18 = .ok (.invokestatic 114, 3) := by decide +kernel
theorem dX9_areNumbers_21 : decode cX9_areNumbers 21 = .ok (.ifCond .eq 7, 3) := by decide +kernel
theorem dX9_areNumbers_24 : decode cX9_areNumbers 24 = .ok (.iconst 1, 1) := by decide +kernel
theorem dX9_areNumbers_25 : decode cX9_areNumbers 25 = .ok (.goto 4, 3) := by decide +kernel
theorem dX9_areNumbers_28 : decode cX9_areNumbers 28 = .ok (.iconst 0, 1) := by decide +kernel
theorem dX9_areNumbers_29 : decode cX9_areNumbers 29 = .ok (.ireturn, 1) := by decide +kernel
theorem dX9_leftBy_0 : decode cX9_leftBy 0 = .ok (.iconst 0, 1) := by decide +kernel
theorem dX9_leftBy_1 : decode cX9_leftBy 1 = .ok (.istore_n 2, 1) := by decide +kernel
theorem dX9_leftBy_2 : decode cX9_leftBy 2 = .ok (.iconst 0, 1) := by decide +kernel
theorem dX9_leftBy_3 : decode cX9_leftBy 3 = .ok (.istore_n 3, 1) := by decide +kernel
theorem dX9_leftBy_4 : decode cX9_leftBy 4 = .ok (.iload_n 3, 1) := by decide +kernel
theorem dX9_leftBy_5 : decode cX9_leftBy 5 = .ok (.aload_n 0, 1) := by decide +kernel
theorem dX9_leftBy_6 : decode cX9_leftBy 6 = .ok (.getfield 120, 3) := by decide +kernel
theorem dX9_leftBy_9 : decode cX9_leftBy 9 = .ok (.if_icmp .ge 64, 3) := by decide +kernel
theorem dX9_leftBy_12 : decode cX9_leftBy 12 = .ok (.iload_n 3, 1) := by decide +kernel
theorem dX9_leftBy_13 : decode cX9_leftBy 13 = .ok (.istore 4, 2) := by decide +kernel
theorem dX9_leftBy_15 : decode cX9_leftBy 15 = .ok (.iload 4, 2) := by decide +kernel
theorem dX9_leftBy_17 : decode cX9_leftBy 17 = .ok (.bipush 9, 2) := by decide +kernel
theorem dX9_leftBy_19 : decode cX9_leftBy 19 = .ok (.if_icmp .eq 31, 3) := by decide +kernel
theorem dX9_leftBy_22 : decode cX9_leftBy 22 = .ok (.iload 4, 2) := by decide +kernel
theorem dX9_leftBy_24 : decode cX9_leftBy 24 = .ok (.bipush (-9), 2) := by decide +kernel
theorem dX9_leftBy_26 : decode cX9_leftBy 26 = .ok (.if_icmp .eq 24, 3) := by decide +kernel
theorem dX9_leftBy_29 : decode cX9_leftBy 29 = .ok (.iload_n 1, 1) := by decide +kernel
theorem dX9_leftBy_30 : decode cX9_leftBy 30 = .ok (.iload 4, 2) := by decide +kernel
theorem dX9_leftBy_32 : decode cX9_leftBy 32 = .ok (.invokestatic 238, 3) := by decide +kernel
theorem dX9_leftBy_35 : decode cX9_leftBy 35 = .ok (.ifCond .ne 15, 3) := by decide +kernel
theorem dX9_leftBy_38 : decode cX9_leftBy 38 = .ok (.aload_n 0, 1) := by decide +kernel
theorem dX9_leftBy_39 : decode cX9_leftBy 39 = .ok (.getfield 16, 3) := by decide +kernel
theorem dX9_leftBy_42 : decode cX9_leftBy 42 = .ok (.iload 4, 2) := by decide +kernel
theorem dX9_leftBy_44 : decode cX9_leftBy 44 = .ok (.iaload, 1) := by decide +kernel
theorem dX9_leftBy_45 : decode cX9_leftBy 45 = .ok (.istore 4, 2) := by decide +kernel
theorem dX9_leftBy_47 : decode cX9_leftBy 47 = .ok (.goto (-32), 3) := by decide +kernel
theorem dX9_leftBy_50 : decode cX9_leftBy 50 = .ok (.iload_n 2, 1) := by decide +kernel
theorem dX9_leftBy_51 : decode cX9_leftBy 51 = .ok (.iload 4, 2) := by decide +kernel
theorem dX9_leftBy_53 : decode cX9_leftBy 53 = .ok (.bipush 9, 2) := by decide +kernel
theorem dX9_leftBy_55 : decode cX9_leftBy 55 = .ok (.if_icmp .ne 9, 3) := by decide +kernel
theorem dX9_leftBy_58 : decode cX9_leftBy 58 = .ok (.iconst 1, 1) := by decide +kernel
theorem dX9_leftBy_59 : decode cX9_leftBy 59 = .ok (.iload_n 3, 1) := by decide +kernel
theorem dX9_leftBy_60 : decode cX9_leftBy 60 = .ok (.ishl, 1) := by decide +kernel
theorem dX9_leftBy_61 : decode cX9_leftBy 61 = .ok (.goto 4, 3) := by decide +kernel
theorem dX9_leftBy_64 : decode cX9_leftBy 64 = .ok (.iconst 0, 1) := by decide +kernel
theorem dX9_leftBy_65 : decode cX9_leftBy 65 = .ok (.ior, 1) := by decide +kernel
theorem dX9_leftBy_66 : decode cX9_leftBy 66 = .ok (.istore_n 2, 1) := by decide +kernel
theorem dX9_leftBy_67 : decode cX9_leftBy 67 = .ok (.iinc 3 1, 3) := by decide +kernel
theorem dX9_leftBy_70 : decode cX9_leftBy 70 = .ok (.goto (-66), 3) := by decide +kernel
theorem dX9_leftBy_73 : decode cX9_leftBy 73 = .ok (.iload_n 2, 1) := by decide +kernel
theorem dX9_leftBy_74 : decode cX9_leftBy 74 = .ok (.ireturn, 1) := by decide +kernel
theorem dX9_passes_0 : decode cX9_passes 0 = .ok (.aload_n 0, 1) := by decide +kernel
theorem dX9_passes_1 : decode cX9_passes 1 = .ok (.bipush 9, 2) := by decide +kernel
theorem dX9_passes_3 : decode cX9_passes 3 = .ok (.invokevirtual 232, 3) := by decide +kernel
theorem dX9_passes_6 : decode cX9_passes 6 = .ok (.iload_n 1, 1) := by decide +kernel
theorem dX9_passes_7 : decode cX9_passes 7 = .ok (.iand, 1) := by decide +kernel
theorem dX9_passes_8 : decode cX9_passes 8 = .ok (.invokestatic 195, 3) := by decide +kernel
theorem dX9_passes_11 : decode cX9_passes 11 = .ok (.iload_n 2, 1) := by decide +kernel
theorem dX9_passes_12 : decode cX9_passes 12 = .ok (.if_icmp .gt 17, 3) := by decide +kernel
theorem dX9_passes_15 : decode cX9_passes 15 = .ok (.aload_n 0, 1) := by decide +kernel
theorem dX9_passes_16 : decode cX9_passes 16 = .ok (.iload_n 3, 1) := by decide +kernel
theorem dX9_passes_17 : decode cX9_passes 17 = .ok (.invokevirtual 254, 3) := by decide +kernel
theorem dX9_passes_20 : decode cX9_passes 20 = .ok (.iload_n 1, 1) := by decide +kernel
theorem dX9_passes_21 : decode cX9_passes 21 = .ok (.iand, 1) := by decide +kernel
theorem dX9_passes_22 : decode cX9_passes 22 = .ok (.ifCond .ne 7, 3) := by decide +kernel
theorem dX9_passes_25 : decode cX9_passes 25 = .ok (.iconst 1, 1) := by decide +kernel
theorem dX9_passes_26 : decode cX9_passes 26 = .ok (.goto 4, 3) := by decide +kernel
theorem dX9_passes_29 : decode cX9_passes 29 = .ok (.iconst 0, 1) := by decide +kernel
theorem dX9_passes_30 : decode cX9_passes 30 = .ok (.istore 4, 2) := by decide +kernel
theorem dX9_passes_32 : decode cX9_passes 32 = .ok (.iconst 0, 1) := by decide +kernel
theorem dX9_passes_33 : decode cX9_passes 33 = .ok (.istore 5, 2) := by decide +kernel
theorem dX9_passes_35 : decode cX9_passes 35 = .ok (.iload 5, 2) := by decide +kernel
theorem dX9_passes_37 : decode cX9_passes 37 = .ok (.aload_n 0, 1) := by decide +kernel
theorem dX9_passes_38 : decode cX9_passes 38 = .ok (.getfield 120, 3) := by decide +kernel
theorem dX9_passes_41 : decode cX9_passes 41 = .ok (.if_icmp .ge 45, 3) := by decide +kernel
theorem dX9_passes_44 : decode cX9_passes 44 = .ok (.iload 4, 2) := by decide +kernel
theorem dX9_passes_46 : decode cX9_passes 46 = .ok (.ifCond .eq 31, 3) := by decide +kernel
theorem dX9_passes_49 : decode cX9_passes 49 = .ok (.iload_n 1, 1) := by decide +kernel
theorem dX9_passes_50 : decode cX9_passes 50 = .ok (.iload 5, 2) := by decide +kernel
theorem dX9_passes_52 : decode cX9_passes 52 = .ok (.invokestatic 238, 3) := by decide +kernel
theorem dX9_passes_55 : decode cX9_passes 55 = .ok (.ifCond .eq 18, 3) := by decide +kernel
theorem dX9_passes_58 : decode cX9_passes 58 = .ok (.aload_n 0, 1) := by decide +kernel
theorem dX9_passes_59 : decode cX9_passes 59 = .ok (.iload 5, 2) := by decide +kernel
theorem dX9_passes_61 : decode cX9_passes 61 = .ok (.invokevirtual 232, 3) := by decide +kernel
theorem dX9_passes_64 : decode cX9_passes 64 = .ok (.iload_n 1, 1) := by decide +kernel
theorem dX9_passes_65 : decode cX9_passes 65 = .ok (.iand, 1) := by decide +kernel
theorem dX9_passes_66 : decode cX9_passes 66 = .ok (.invokestatic 195, 3) := by decide +kernel
theorem dX9_passes_69 : decode cX9_passes 69 = .ok (.iload_n 2, 1) := by decide +kernel
theorem dX9_passes_70 : decode cX9_passes 70 = .ok (.if_icmp .gt 7, 3) := by decide +kernel
theorem dX9_passes_73 : decode cX9_passes 73 = .ok (.iconst 1, 1) := by decide +kernel
theorem dX9_passes_74 : decode cX9_passes 74 = .ok (.goto 4, 3) := by decide +kernel
theorem dX9_passes_77 : decode cX9_passes 77 = .ok (.iconst 0, 1) := by decide +kernel
theorem dX9_passes_78 : decode cX9_passes 78 = .ok (.istore 4, 2) := by decide +kernel
theorem dX9_passes_80 : decode cX9_passes 80 = .ok (.iinc 5 1, 3) := by decide +kernel
theorem dX9_passes_83 : decode cX9_passes 83 = .ok (.goto (-48), 3) := by decide +kernel
theorem dX9_passes_86 : decode cX9_passes 86 = .ok (.iload 4, 2) := by decide +kernel
theorem dX9_passes_88 : decode cX9_passes 88 = .ok (.ireturn, 1) := by decide +kernel
theorem dX9_part_0 : decode cX9_part 0 = .ok (.iload_n 1, 1) := by decide +kernel
theorem dX9_part_1 : decode cX9_part 1 = .ok (.iload_n 2, 1) := by decide +kernel
theorem dX9_part_2 : decode cX9_part 2 = .ok (.invokestatic 257, 3) := by decide +kernel
theorem dX9_part_5 : decode cX9_part 5 = .ok (.ifCond .ne 5, 3) := by decide +kernel
theorem dX9_part_8 : decode cX9_part 8 = .ok (.iconst (-1), 1) := by decide +kernel
theorem dX9_part_9 : decode cX9_part 9 = .ok (.ireturn, 1) := by decide +kernel
theorem dX9_part_10 : decode cX9_part 10 = .ok (.aload_n 0, 1) := by decide +kernel
theorem dX9_part_11 : decode cX9_part 11 = .ok (.invokevirtual 192, 3) := by decide +kernel
theorem dX9_part_14 : decode cX9_part 14 = .ok (.istore_n 3, 1) := by decide +kernel
theorem dX9_part_15 : decode cX9_part 15 = .ok (.iload_n 3, 1) := by decide +kernel
theorem dX9_part_16 : decode cX9_part 16 = .ok (.istore 4, 2) := by decide +kernel
theorem dX9_part_18 : decode cX9_part 18 = .ok (.iconst 0, 1) := by decide +kernel
theorem dX9_part_19 : decode cX9_part 19 = .ok (.istore 5, 2) := by decide +kernel
theorem dX9_part_21 : decode cX9_part 21 = .ok (.iload 5, 2) := by decide +kernel
theorem dX9_part_23 : decode cX9_part 23 = .ok (.iconst 1, 1) := by decide +kernel
theorem dX9_part_24 : decode cX9_part 24 = .ok (.aload_n 0, 1) := by decide +kernel
theorem dX9_part_25 : decode cX9_part 25 = .ok (.getfield 120, 3) := by decide +kernel
theorem dX9_part_28 : decode cX9_part 28 = .ok (.ishl, 1) := by decide +kernel
theorem dX9_part_29 : decode cX9_part 29 = .ok (.if_icmp .ge 87, 3) := by decide +kernel
theorem dX9_part_32 : decode cX9_part 32 = .ok (.iload 5, 2) := by decide +kernel
theorem dX9_part_34 : decode cX9_part 34 = .ok (.iload_n 3, 1) := by decide +kernel
theorem dX9_part_35 : decode cX9_part 35 = .ok (.iconst (-1), 1) := by decide +kernel
theorem dX9_part_36 : decode cX9_part 36 = .ok (.ixor, 1) := by decide +kernel
theorem dX9_part_37 : decode cX9_part 37 = .ok (.iand, 1) := by decide +kernel
theorem dX9_part_38 : decode cX9_part 38 = .ok (.ifCond .ne 40, 3) := by decide +kernel
theorem dX9_part_41 : decode cX9_part 41 = .ok (.iload 5, 2) := by decide +kernel
theorem dX9_part_43 : decode cX9_part 43 = .ok (.invokestatic 195, 3) := by decide +kernel
theorem dX9_part_46 : decode cX9_part 46 = .ok (.iload 4, 2) := by decide +kernel
theorem dX9_part_48 : decode cX9_part 48 = .ok (.invokestatic 195, 3) := by decide +kernel
theorem dX9_part_51 : decode cX9_part 51 = .ok (.if_icmp .lt 23, 3) := by decide +kernel
theorem dX9_part_54 : decode cX9_part 54 = .ok (.iload 5, 2) := by decide +kernel
theorem dX9_part_56 : decode cX9_part 56 = .ok (.invokestatic 195, 3) := by decide +kernel
theorem dX9_part_59 : decode cX9_part 59 = .ok (.iload 4, 2) := by decide +kernel
theorem dX9_part_61 : decode cX9_part 61 = .ok (.invokestatic 195, 3) := by decide +kernel
theorem dX9_part_64 : decode cX9_part 64 = .ok (.if_icmp .ne 14, 3) := by decide +kernel
theorem dX9_part_67 : decode cX9_part 67 = .ok (.iload 5, 2) := by decide +kernel
theorem dX9_part_69 : decode cX9_part 69 = .ok (.iload 4, 2) := by decide +kernel
theorem dX9_part_71 : decode cX9_part 71 = .ok (.if_icmp .ge 7, 3) := by decide +kernel
theorem dX9_part_74 : decode cX9_part 74 = .ok (.iconst 1, 1) := by decide +kernel
theorem dX9_part_75 : decode cX9_part 75 = .ok (.goto 4, 3) := by decide +kernel
theorem dX9_part_78 : decode cX9_part 78 = .ok (.iconst 0, 1) := by decide +kernel
theorem dX9_part_79 : decode cX9_part 79 = .ok (.istore 6, 2) := by decide +kernel
theorem dX9_part_81 : decode cX9_part 81 = .ok (.iload 6, 2) := by decide +kernel
theorem dX9_part_83 : decode cX9_part 83 = .ok (.ifCond .eq 23, 3) := by decide +kernel
theorem dX9_part_86 : decode cX9_part 86 = .ok (.aload_n 0, 1) := by decide +kernel
theorem dX9_part_87 : decode cX9_part 87 = .ok (.aload_n 0, 1) := by decide +kernel
theorem dX9_part_88 : decode cX9_part 88 = .ok (.iload 5, 2) := by decide +kernel
theorem dX9_part_90 : decode cX9_part 90 = .ok (.invokevirtual 260, 3) := by decide +kernel
theorem dX9_part_93 : decode cX9_part 93 = .ok (.iload_n 1, 1) := by decide +kernel
theorem dX9_part_94 : decode cX9_part 94 = .ok (.iload_n 2, 1) := by decide +kernel
theorem dX9_part_95 : decode cX9_part 95 = .ok (.invokevirtual 263, 3) := by decide +kernel
theorem dX9_part_98 : decode cX9_part 98 = .ok (.ifCond .eq 8, 3) := by decide +kernel
theorem dX9_part_101 : decode cX9_part 101 = .ok (.iload 5, 2) := by decide +kernel
theorem dX9_part_103 : decode cX9_part 103 = .ok (.goto 5, 3) := by decide +kernel
theorem dX9_part_106 : decode cX9_part 106 = .ok (.iload 4, 2) := by decide +kernel
theorem dX9_part_108 : decode cX9_part 108 = .ok (.istore 4, 2) := by decide +kernel
theorem dX9_part_110 : decode cX9_part 110 = .ok (.iinc 5 1, 3) := by decide +kernel
theorem dX9_part_113 : decode cX9_part 113 = .ok (.goto (-92), 3) := by decide +kernel
theorem dX9_part_116 : decode cX9_part 116 = .ok (.aload_n 0, 1) := by decide +kernel
theorem dX9_part_117 : decode cX9_part 117 = .ok (.iload 4, 2) := by decide +kernel
theorem dX9_part_119 : decode cX9_part 119 = .ok (.putfield 131, 3) := by decide +kernel
theorem dX9_part_122 : decode cX9_part 122 = .ok (.iload 4, 2) := by decide +kernel
theorem dX9_part_124 : decode cX9_part 124 = .ok (.invokestatic 195, 3) := by decide +kernel
theorem dX9_part_127 : decode cX9_part 127 = .ok (.ireturn, 1) := by decide +kernel
theorem dX9_room_0 : decode cX9_room 0 = .ok (.iload_n 1, 1) := by decide +kernel
theorem dX9_room_1 : decode cX9_room 1 = .ok (.iload_n 2, 1) := by decide +kernel
theorem dX9_room_2 : decode cX9_room 2 = .ok (.invokestatic 257, 3) := by decide +kernel
theorem dX9_room_5 : decode cX9_room 5 = .ok (.ifCond .ne 5, 3) := by decide +kernel
theorem dX9_room_8 : decode cX9_room 8 = .ok (.iconst (-1), 1) := by decide +kernel
theorem dX9_room_9 : decode cX9_room 9 = .ok (.ireturn, 1) := by decide +kernel
theorem dX9_room_10 : decode cX9_room 10 = .ok (.aload_n 0, 1) := by decide +kernel
theorem dX9_room_11 : decode cX9_room 11 = .ok (.aload_n 0, 1) := by decide +kernel
theorem dX9_room_12 : decode cX9_room 12 = .ok (.invokevirtual 192, 3) := by decide +kernel
theorem dX9_room_15 : decode cX9_room 15 = .ok (.iload_n 1, 1) := by decide +kernel
theorem dX9_room_16 : decode cX9_room 16 = .ok (.iload_n 2, 1) := by decide +kernel
theorem dX9_room_17 : decode cX9_room 17 = .ok (.invokevirtual 263, 3) := by decide +kernel
theorem dX9_room_20 : decode cX9_room 20 = .ok (.ifCond .ne 5, 3) := by decide +kernel
theorem dX9_room_23 : decode cX9_room 23 = .ok (.iconst 0, 1) := by decide +kernel
theorem dX9_room_24 : decode cX9_room 24 = .ok (.ireturn, 1) := by decide +kernel
theorem dX9_room_25 : decode cX9_room 25 = .ok (.aload_n 0, 1) := by decide +kernel
theorem dX9_room_26 : decode cX9_room 26 = .ok (.bipush 9, 2) := by decide +kernel
theorem dX9_room_28 : decode cX9_room 28 = .ok (.invokevirtual 232, 3) := by decide +kernel
theorem dX9_room_31 : decode cX9_room 31 = .ok (.invokestatic 195, 3) := by decide +kernel
theorem dX9_room_34 : decode cX9_room 34 = .ok (.iload_n 1, 1) := by decide +kernel
theorem dX9_room_35 : decode cX9_room 35 = .ok (.if_icmp .ge 11, 3) := by decide +kernel
theorem dX9_room_38 : decode cX9_room 38 = .ok (.iload_n 2, 1) := by decide +kernel
theorem dX9_room_39 : decode cX9_room 39 = .ok (.ifCond .le 7, 3) := by decide +kernel
theorem dX9_room_42 : decode cX9_room 42 = .ok (.iconst 1, 1) := by decide +kernel
theorem dX9_room_43 : decode cX9_room 43 = .ok (.goto 4, 3) := by decide +kernel
theorem dX9_room_46 : decode cX9_room 46 = .ok (.iconst 0, 1) := by decide +kernel
theorem dX9_room_47 : decode cX9_room 47 = .ok (.istore_n 3, 1) := by decide +kernel
theorem dX9_room_48 : decode cX9_room 48 = .ok (.iconst 0, 1) := by decide +kernel
theorem dX9_room_49 : decode cX9_room 49 = .ok (.istore 4, 2) := by decide +kernel
theorem dX9_room_51 : decode cX9_room 51 = .ok (.iload 4, 2) := by decide +kernel
theorem dX9_room_53 : decode cX9_room 53 = .ok (.aload_n 0, 1) := by decide +kernel
theorem dX9_room_54 : decode cX9_room 54 = .ok (.getfield 120, 3) := by decide +kernel
theorem dX9_room_57 : decode cX9_room 57 = .ok (.if_icmp .ge 49, 3) := by decide +kernel
theorem dX9_room_60 : decode cX9_room 60 = .ok (.iload_n 3, 1) := by decide +kernel
theorem dX9_room_61 : decode cX9_room 61 = .ok (.aload_n 0, 1) := by decide +kernel
theorem dX9_room_62 : decode cX9_room 62 = .ok (.iload 4, 2) := by decide +kernel
theorem dX9_room_64 : decode cX9_room 64 = .ok (.invokevirtual 172, 3) := by decide +kernel
theorem dX9_room_67 : decode cX9_room 67 = .ok (.ifCond .eq 30, 3) := by decide +kernel
theorem dX9_room_70 : decode cX9_room 70 = .ok (.aload_n 0, 1) := by decide +kernel
theorem dX9_room_71 : decode cX9_room 71 = .ok (.iload 4, 2) := by decide +kernel
theorem dX9_room_73 : decode cX9_room 73 = .ok (.invokevirtual 232, 3) := by decide +kernel
theorem dX9_room_76 : decode cX9_room 76 = .ok (.invokestatic 195, 3) := by decide +kernel
theorem dX9_room_79 : decode cX9_room 79 = .ok (.iload_n 1, 1) := by decide +kernel
theorem dX9_room_80 : decode cX9_room 80 = .ok (.if_icmp .ge 17, 3) := by decide +kernel
theorem dX9_room_83 : decode cX9_room 83 = .ok (.aload_n 0, 1) := by decide +kernel
theorem dX9_room_84 : decode cX9_room 84 = .ok (.iload 4, 2) := by decide +kernel
theorem dX9_room_86 : decode cX9_room 86 = .ok (.invokevirtual 175, 3) := by decide +kernel
theorem dX9_room_89 : decode cX9_room 89 = .ok (.iload_n 2, 1) := by decide +kernel
theorem dX9_room_90 : decode cX9_room 90 = .ok (.if_icmp .ge 7, 3) := by decide +kernel
theorem dX9_room_93 : decode cX9_room 93 = .ok (.iconst 1, 1) := by decide +kernel
theorem dX9_room_94 : decode cX9_room 94 = .ok (.goto 4, 3) := by decide +kernel
theorem dX9_room_97 : decode cX9_room 97 = .ok (.iconst 0, 1) := by decide +kernel
theorem dX9_room_98 : decode cX9_room 98 = .ok (.iadd, 1) := by decide +kernel
theorem dX9_room_99 : decode cX9_room 99 = .ok (.istore_n 3, 1) := by decide +kernel
theorem dX9_room_100 : decode cX9_room 100 = .ok (.iinc 4 1, 3) := by decide +kernel
theorem dX9_room_103 : decode cX9_room 103 = .ok (.goto (-52), 3) := by decide +kernel
theorem dX9_room_106 : decode cX9_room 106 = .ok (.iload_n 3, 1) := by decide +kernel
theorem dX9_room_107 : decode cX9_room 107 = .ok (.ireturn, 1) := by decide +kernel
theorem dX9_freeOthers_0 : decode cX9_freeOthers 0 = .ok (.iconst 0, 1) := by decide +kernel
theorem dX9_freeOthers_1 : decode cX9_freeOthers 1 = .ok (.istore_n 2, 1) := by decide +kernel
theorem dX9_freeOthers_2 : decode cX9_freeOthers 2 = .ok (.iconst 0, 1) := by decide +kernel
theorem dX9_freeOthers_3 : decode cX9_freeOthers 3 = .ok (.istore_n 3, 1) := by decide +kernel
theorem dX9_freeOthers_4 : decode cX9_freeOthers 4 = .ok (.iload_n 3, 1) := by decide +kernel
theorem dX9_freeOthers_5 : decode cX9_freeOthers 5 = .ok (.aload_n 0, 1) := by decide +kernel
theorem dX9_freeOthers_6 : decode cX9_freeOthers 6 = .ok (.getfield 120, 3) := by decide +kernel
theorem dX9_freeOthers_9 : decode cX9_freeOthers 9 = .ok (.if_icmp .ge 30, 3) := by decide +kernel
theorem dX9_freeOthers_12 : decode cX9_freeOthers 12 = .ok (.iload_n 2, 1) := by decide +kernel
theorem dX9_freeOthers_13 : decode cX9_freeOthers 13 = .ok (.iload_n 3, 1) := by decide +kernel
theorem dX9_freeOthers_14 : decode cX9_freeOthers 14 = .ok (.iload_n 1, 1) := by decide +kernel
theorem dX9_freeOthers_15 : decode cX9_freeOthers 15 = .ok (.if_icmp .eq 15, 3) := by decide +kernel
theorem dX9_freeOthers_18 : decode cX9_freeOthers 18 = .ok (.aload_n 0, 1) := by decide +kernel
theorem dX9_freeOthers_19 : decode cX9_freeOthers 19 = .ok (.iload_n 3, 1) := by decide +kernel
theorem dX9_freeOthers_20 : decode cX9_freeOthers 20 = .ok (.invokevirtual 172, 3) := by decide +kernel
theorem dX9_freeOthers_23 : decode cX9_freeOthers 23 = .ok (.ifCond .ne 7, 3) := by decide +kernel
theorem dX9_freeOthers_26 : decode cX9_freeOthers 26 = .ok (.iconst 1, 1) := by decide +kernel
theorem dX9_freeOthers_27 : decode cX9_freeOthers 27 = .ok (.goto 4, 3) := by decide +kernel
theorem dX9_freeOthers_30 : decode cX9_freeOthers 30 = .ok (.iconst 0, 1) := by decide +kernel
theorem dX9_freeOthers_31 : decode cX9_freeOthers 31 = .ok (.iadd, 1) := by decide +kernel
theorem dX9_freeOthers_32 : decode cX9_freeOthers 32 = .ok (.istore_n 2, 1) := by decide +kernel
theorem dX9_freeOthers_33 : decode cX9_freeOthers 33 = .ok (.iinc 3 1, 3) := by decide +kernel
theorem dX9_freeOthers_36 : decode cX9_freeOthers 36 = .ok (.goto (-32), 3) := by decide +kernel
theorem dX9_freeOthers_39 : decode cX9_freeOthers 39 = .ok (.iload_n 2, 1) := by decide +kernel
theorem dX9_freeOthers_40 : decode cX9_freeOthers 40 = .ok (.ireturn, 1) := by decide +kernel
theorem dX9_place_0 : decode cX9_place 0 = .ok (.aload_n 0, 1) := by decide +kernel
theorem dX9_place_1 : decode cX9_place 1 = .ok (.iload_n 1, 1) := by decide +kernel
theorem dX9_place_2 : decode cX9_place 2 = .ok (.invokevirtual 181, 3) := by decide +kernel
theorem dX9_place_5 : decode cX9_place 5 = .ok (.ifCond .eq 15, 3) := by decide +kernel
theorem dX9_place_8 : decode cX9_place 8 = .ok (.iload_n 2, 1) := by decide +kernel
theorem dX9_place_9 : decode cX9_place 9 = .ok (.i2l, 1) := by decide +kernel
theorem dX9_place_10 : decode cX9_place 10 = .ok (.lconst 1, 1) := by decide +kernel
theorem dX9_place_11 : decode cX9_place 11 = .ok (.ldc2_w 249, 3) := by decide +kernel
theorem dX9_place_14 : decode cX9_place 14 = .ok (.invokestatic 114, 3) := by decide +kernel
theorem dX9_place_17 : decode cX9_place 17 = .ok (.ifCond .ne 5, 3) := by decide +kernel
theorem dX9_place_20 : decode cX9_place 20 = .ok (.iconst (-1), 1) := by decide +kernel
theorem dX9_place_21 : decode cX9_place 21 = .ok (.ireturn, 1) := by decide +kernel
theorem dX9_place_22 : decode cX9_place 22 = .ok (.aload_n 0, 1) := by decide +kernel
theorem dX9_place_23 : decode cX9_place 23 = .ok (.iload_n 1, 1) := by decide +kernel
theorem dX9_place_24 : decode cX9_place 24 = .ok (.invokevirtual 172, 3) := by decide +kernel
theorem dX9_place_27 : decode cX9_place 27 = .ok (.ifCond .eq 6, 3) := by decide +kernel
theorem dX9_place_30 : decode cX9_place 30 = .ok (.bipush (-9), 2) := by decide +kernel
theorem dX9_place_32 : decode cX9_place 32 = .ok (.ireturn, 1) := by decide +kernel
theorem dX9_place_33 : decode cX9_place 33 = .ok (.iload_n 2, 1) := by decide +kernel
theorem dX9_place_34 : decode cX9_place 34 = .ok (.iconst 1, 1) := by decide +kernel
theorem dX9_place_35 : decode cX9_place 35 = .ok (.isub, 1) := by decide +kernel
theorem dX9_place_36 : decode cX9_place 36 = .ok (.aload_n 0, 1) := by decide +kernel
theorem dX9_place_37 : decode cX9_place 37 = .ok (.invokevirtual 188, 3) := by decide +kernel
theorem dX9_place_40 : decode cX9_place 40 = .ok (.isub, 1) := by decide +kernel
theorem dX9_place_41 : decode cX9_place 41 = .ok (.istore_n 3, 1) := by decide +kernel
theorem dX9_place_42 : decode cX9_place 42 = .ok (.iload_n 3, 1) := by decide +kernel
theorem dX9_place_43 : decode cX9_place 43 = .ok (.ifCond .ge 7, 3) := by decide +kernel
theorem dX9_place_46 : decode cX9_place 46 = .ok (.iconst 0, 1) := by decide +kernel
theorem dX9_place_47 : decode cX9_place 47 = .ok (.goto 4, 3) := by decide +kernel
theorem dX9_place_50 : decode cX9_place 50 = .ok (.iload_n 3, 1) := by decide +kernel
theorem dX9_place_51 : decode cX9_place 51 = .ok (.istore_n 3, 1) := by decide +kernel
theorem dX9_place_52 : decode cX9_place 52 = .ok (.iload_n 3, 1) := by decide +kernel
theorem dX9_place_53 : decode cX9_place 53 = .ok (.aload_n 0, 1) := by decide +kernel
theorem dX9_place_54 : decode cX9_place 54 = .ok (.iload_n 1, 1) := by decide +kernel
theorem dX9_place_55 : decode cX9_place 55 = .ok (.invokevirtual 267, 3) := by decide +kernel
theorem dX9_place_58 : decode cX9_place 58 = .ok (.if_icmp .le 8, 3) := by decide +kernel
theorem dX9_place_61 : decode cX9_place 61 = .ok (.bipush (-9), 2) := by decide +kernel
theorem dX9_place_63 : decode cX9_place 63 = .ok (.goto 6, 3) := by decide +kernel
theorem dX9_place_66 : decode cX9_place 66 = .ok (.iload_n 3, 1) := by decide +kernel
theorem dX9_place_67 : decode cX9_place 67 = .ok (.iconst 1, 1) := by decide +kernel
theorem dX9_place_68 : decode cX9_place 68 = .ok (.iadd, 1) := by decide +kernel
theorem dX9_place_69 : decode cX9_place 69 = .ok (.ireturn, 1) := by decide +kernel
theorem dX9_fun_0 : decode cX9_fun 0 = .ok (.aload_n 0, 1) := by decide +kernel
theorem dX9_fun_1 : decode cX9_fun 1 = .ok (.iload_n 1, 1) := by decide +kernel
theorem dX9_fun_2 : decode cX9_fun 2 = .ok (.invokevirtual 181, 3) := by decide +kernel
theorem dX9_fun_5 : decode cX9_fun 5 = .ok (.ifCond .ne 5, 3) := by decide +kernel
theorem dX9_fun_8 : decode cX9_fun 8 = .ok (.iconst (-1), 1) := by decide +kernel
theorem dX9_fun_9 : decode cX9_fun 9 = .ok (.ireturn, 1) := by decide +kernel
theorem dX9_fun_10 : decode cX9_fun 10 = .ok (.aload_n 0, 1) := by decide +kernel
theorem dX9_fun_11 : decode cX9_fun 11 = .ok (.iload_n 1, 1) := by decide +kernel
theorem dX9_fun_12 : decode cX9_fun 12 = .ok (.invokevirtual 172, 3) := by decide +kernel
theorem dX9_fun_15 : decode cX9_fun 15 = .ok (.ifCond .eq 6, 3) := by decide +kernel
theorem dX9_fun_18 : decode cX9_fun 18 = .ok (.bipush (-4), 2) := by decide +kernel
theorem dX9_fun_20 : decode cX9_fun 20 = .ok (.ireturn, 1) := by decide +kernel
theorem dX9_fun_21 : decode cX9_fun 21 = .ok (.aload_n 0, 1) := by decide +kernel
theorem dX9_fun_22 : decode cX9_fun 22 = .ok (.getfield 7, 3) := by decide +kernel
theorem dX9_fun_25 : decode cX9_fun 25 = .ok (.iload_n 1, 1) := by decide +kernel
theorem dX9_fun_26 : decode cX9_fun 26 = .ok (.iaload, 1) := by decide +kernel
theorem dX9_fun_27 : decode cX9_fun 27 = .ok (.iconst 3, 1) := by decide +kernel
theorem dX9_fun_28 : decode cX9_fun 28 = .ok (.if_icmp .ne 15, 3) := by decide +kernel
theorem dX9_fun_31 : decode cX9_fun 31 = .ok (.iconst 1, 1) := by decide +kernel
theorem dX9_fun_32 : decode cX9_fun 32 = .ok (.aload_n 0, 1) := by decide +kernel
theorem dX9_fun_33 : decode cX9_fun 33 = .ok (.invokevirtual 192, 3) := by decide +kernel
theorem dX9_fun_36 : decode cX9_fun 36 = .ok (.invokestatic 195, 3) := by decide +kernel
theorem dX9_fun_39 : decode cX9_fun 39 = .ok (.isub, 1) := by decide +kernel
theorem dX9_fun_40 : decode cX9_fun 40 = .ok (.goto 30, 3) := by decide +kernel
theorem dX9_fun_43 : decode cX9_fun 43 = .ok (.aload_n 0, 1) := by decide +kernel
theorem dX9_fun_44 : decode cX9_fun 44 = .ok (.getfield 13, 3) := by decide +kernel
theorem dX9_fun_47 : decode cX9_fun 47 = .ok (.iload_n 1, 1) := by decide +kernel
theorem dX9_fun_48 : decode cX9_fun 48 = .ok (.iaload, 1) := by decide +kernel
theorem dX9_fun_49 : decode cX9_fun 49 = .ok (.aload_n 0, 1) := by decide +kernel
theorem dX9_fun_50 : decode cX9_fun 50 = .ok (.iload_n 1, 1) := by decide +kernel
theorem dX9_fun_51 : decode cX9_fun 51 = .ok (.iconst 2, 1) := by decide +kernel
theorem dX9_fun_52 : decode cX9_fun 52 = .ok (.invokevirtual 206, 3) := by decide +kernel
theorem dX9_fun_55 : decode cX9_fun 55 = .ok (.ifCond .eq 7, 3) := by decide +kernel
theorem dX9_fun_58 : decode cX9_fun 58 = .ok (.iconst 1, 1) := by decide +kernel
theorem dX9_fun_59 : decode cX9_fun 59 = .ok (.goto 4, 3) := by decide +kernel
theorem dX9_fun_62 : decode cX9_fun 62 = .ok (.iconst 0, 1) := by decide +kernel
theorem dX9_fun_63 : decode cX9_fun 63 = .ok (.iadd, 1) := by decide +kernel
theorem dX9_fun_64 : decode cX9_fun 64 = .ok (.aload_n 0, 1) := by decide +kernel
theorem dX9_fun_65 : decode cX9_fun 65 = .ok (.iload_n 1, 1) := by decide +kernel
theorem dX9_fun_66 : decode cX9_fun 66 = .ok (.invokevirtual 198, 3) := by decide +kernel
theorem dX9_fun_69 : decode cX9_fun 69 = .ok (.isub, 1) := by decide +kernel
theorem dX9_fun_70 : decode cX9_fun 70 = .ok (.istore_n 2, 1) := by decide +kernel
theorem dX9_fun_71 : decode cX9_fun 71 = .ok (.iload_n 2, 1) := by decide +kernel
theorem dX9_fun_72 : decode cX9_fun 72 = .ok (.ifCond .ge 7, 3) := by decide +kernel
theorem dX9_fun_75 : decode cX9_fun 75 = .ok (.iconst 0, 1) := by decide +kernel
theorem dX9_fun_76 : decode cX9_fun 76 = .ok (.goto 4, 3) := by decide +kernel
theorem dX9_fun_79 : decode cX9_fun 79 = .ok (.iload_n 2, 1) := by decide +kernel
theorem dX9_fun_80 : decode cX9_fun 80 = .ok (.istore_n 2, 1) := by decide +kernel
theorem dX9_fun_81 : decode cX9_fun 81 = .ok (.aload_n 0, 1) := by decide +kernel
theorem dX9_fun_82 : decode cX9_fun 82 = .ok (.getfield 7, 3) := by decide +kernel
theorem dX9_fun_85 : decode cX9_fun 85 = .ok (.iload_n 1, 1) := by decide +kernel
theorem dX9_fun_86 : decode cX9_fun 86 = .ok (.iaload, 1) := by decide +kernel
theorem dX9_fun_87 : decode cX9_fun 87 = .ok (.iconst 3, 1) := by decide +kernel
theorem dX9_fun_88 : decode cX9_fun 88 = .ok (.if_icmp .eq 20, 3) := by decide +kernel
theorem dX9_fun_91 : decode cX9_fun 91 = .ok (.aload_n 0, 1) := by decide +kernel
theorem dX9_fun_92 : decode cX9_fun 92 = .ok (.getfield 166, 3) := by decide +kernel
theorem dX9_fun_95 : decode cX9_fun 95 = .ok (.aload_n 0, 1) := by decide +kernel
theorem dX9_fun_96 : decode cX9_fun 96 = .ok (.getfield 22, 3) := by decide +kernel
theorem dX9_fun_99 : decode cX9_fun 99 = .ok (.iload_n 1, 1) := by decide +kernel
theorem dX9_fun_100 : decode cX9_fun 100 = .ok (.iaload, 1) := by decide +kernel
theorem dX9_fun_101 : decode cX9_fun 101 = .ok (.isub, 1) := by decide +kernel
theorem dX9_fun_102 : decode cX9_fun 102 = .ok (.sipush 365, 3) := by decide +kernel
theorem dX9_fun_105 : decode cX9_fun 105 = .ok (.if_icmp .lt 7, 3) := by decide +kernel
theorem dX9_fun_108 : decode cX9_fun 108 = .ok (.iconst 1, 1) := by decide +kernel
theorem dX9_fun_109 : decode cX9_fun 109 = .ok (.goto 4, 3) := by decide +kernel
theorem dX9_fun_112 : decode cX9_fun 112 = .ok (.iconst 0, 1) := by decide +kernel
theorem dX9_fun_113 : decode cX9_fun 113 = .ok (.istore_n 3, 1) := by decide +kernel
theorem dX9_fun_114 : decode cX9_fun 114 = .ok (.iload_n 3, 1) := by decide +kernel
theorem dX9_fun_115 : decode cX9_fun 115 = .ok (.ifCond .eq 16, 3) := by decide +kernel
theorem dX9_fun_118 : decode cX9_fun 118 = .ok (.iload_n 2, 1) := by decide +kernel
theorem dX9_fun_119 : decode cX9_fun 119 = .ok (.aload_n 0, 1) := by decide +kernel
theorem dX9_fun_120 : decode cX9_fun 120 = .ok (.iload_n 1, 1) := by decide +kernel
theorem dX9_fun_121 : decode cX9_fun 121 = .ok (.invokevirtual 267, 3) := by decide +kernel
theorem dX9_fun_124 : decode cX9_fun 124 = .ok (.if_icmp .gt 7, 3) := by decide +kernel
theorem dX9_fun_127 : decode cX9_fun 127 = .ok (.iload_n 2, 1) := by decide +kernel
theorem dX9_fun_128 : decode cX9_fun 128 = .ok (.goto 5, 3) := by decide +kernel
theorem dX9_fun_131 : decode cX9_fun 131 = .ok (.bipush (-9), 2) := by decide +kernel
theorem dX9_fun_133 : decode cX9_fun 133 = .ok (.ireturn, 1) := by decide +kernel
theorem dX9_jester_0 : decode cX9_jester 0 = .ok (.iconst 0, 1) := by decide +kernel
theorem dX9_jester_1 : decode cX9_jester 1 = .ok (.istore_n 1, 1) := by decide +kernel
theorem dX9_jester_2 : decode cX9_jester 2 = .ok (.iload_n 1, 1) := by decide +kernel
theorem dX9_jester_3 : decode cX9_jester 3 = .ok (.aload_n 0, 1) := by decide +kernel
theorem dX9_jester_4 : decode cX9_jester 4 = .ok (.getfield 120, 3) := by decide +kernel
theorem dX9_jester_7 : decode cX9_jester 7 = .ok (.if_icmp .ge 30, 3) := by decide +kernel
theorem dX9_jester_10 : decode cX9_jester 10 = .ok (.aload_n 0, 1) := by decide +kernel
theorem dX9_jester_11 : decode cX9_jester 11 = .ok (.iload_n 1, 1) := by decide +kernel
theorem dX9_jester_12 : decode cX9_jester 12 = .ok (.invokevirtual 227, 3) := by decide +kernel
theorem dX9_jester_15 : decode cX9_jester 15 = .ok (.ifCond .eq 16, 3) := by decide +kernel
theorem dX9_jester_18 : decode cX9_jester 18 = .ok (.aload_n 0, 1) := by decide +kernel
theorem dX9_jester_19 : decode cX9_jester 19 = .ok (.aload_n 0, 1) := by decide +kernel
theorem dX9_jester_20 : decode cX9_jester 20 = .ok (.invokevirtual 192, 3) := by decide +kernel
theorem dX9_jester_23 : decode cX9_jester 23 = .ok (.invokestatic 195, 3) := by decide +kernel
theorem dX9_jester_26 : decode cX9_jester 26 = .ok (.putfield 131, 3) := by decide +kernel
theorem dX9_jester_29 : decode cX9_jester 29 = .ok (.iload_n 1, 1) := by decide +kernel
theorem dX9_jester_30 : decode cX9_jester 30 = .ok (.ireturn, 1) := by decide +kernel
theorem dX9_jester_31 : decode cX9_jester 31 = .ok (.iinc 1 1, 3) := by decide +kernel
theorem dX9_jester_34 : decode cX9_jester 34 = .ok (.goto (-32), 3) := by decide +kernel
theorem dX9_jester_37 : decode cX9_jester 37 = .ok (.bipush (-9), 2) := by decide +kernel
theorem dX9_jester_39 : decode cX9_jester 39 = .ok (.ireturn, 1) := by decide +kernel
theorem dX9_waysNow_0 : decode cX9_waysNow 0 = .ok (.iconst 0, 1) := by decide +kernel
theorem dX9_waysNow_1 : decode cX9_waysNow 1 = .ok (.istore_n 1, 1) := by decide +kernel
theorem dX9_waysNow_2 : decode cX9_waysNow 2 = .ok (.iconst 0, 1) := by decide +kernel
theorem dX9_waysNow_3 : decode cX9_waysNow 3 = .ok (.istore_n 2, 1) := by decide +kernel
theorem dX9_waysNow_4 : decode cX9_waysNow 4 = .ok (.iload_n 2, 1) := by decide +kernel
theorem dX9_waysNow_5 : decode cX9_waysNow 5 = .ok (.aload_n 0, 1) := by decide +kernel
theorem dX9_waysNow_6 : decode cX9_waysNow 6 = .ok (.getfield 120, 3) := by decide +kernel
theorem dX9_waysNow_9 : decode cX9_waysNow 9 = .ok (.if_icmp .ge 50, 3) := by decide +kernel
theorem dX9_waysNow_12 : decode cX9_waysNow 12 = .ok (.aload_n 0, 1) := by decide +kernel
theorem dX9_waysNow_13 : decode cX9_waysNow 13 = .ok (.iload_n 2, 1) := by decide +kernel
theorem dX9_waysNow_14 : decode cX9_waysNow 14 = .ok (.invokevirtual 172, 3) := by decide +kernel
theorem dX9_waysNow_17 : decode cX9_waysNow 17 = .ok (.ifCond .eq 7, 3) := by decide +kernel
theorem dX9_waysNow_20 : decode cX9_waysNow 20 = .ok (.iconst 0, 1) := by decide +kernel
theorem dX9_waysNow_21 : decode cX9_waysNow 21 = .ok (.goto 17, 3) := by decide +kernel
theorem dX9_waysNow_24 : decode cX9_waysNow 24 = .ok (.aload_n 0, 1) := by decide +kernel
theorem dX9_waysNow_25 : decode cX9_waysNow 25 = .ok (.iload_n 2, 1) := by decide +kernel
theorem dX9_waysNow_26 : decode cX9_waysNow 26 = .ok (.iconst 0, 1) := by decide +kernel
theorem dX9_waysNow_27 : decode cX9_waysNow 27 = .ok (.invokevirtual 221, 3) := by decide +kernel
theorem dX9_waysNow_30 : decode cX9_waysNow 30 = .ok (.ifCond .eq 7, 3) := by decide +kernel
theorem dX9_waysNow_33 : decode cX9_waysNow 33 = .ok (.iconst 2, 1) := by decide +kernel
theorem dX9_waysNow_34 : decode cX9_waysNow 34 = .ok (.goto 4, 3) := by decide +kernel
theorem dX9_waysNow_37 : decode cX9_waysNow 37 = .ok (.iconst 1, 1) := by decide +kernel
theorem dX9_waysNow_38 : decode cX9_waysNow 38 = .ok (.istore_n 3, 1) := by decide +kernel
theorem dX9_waysNow_39 : decode cX9_waysNow 39 = .ok (.iload_n 1, 1) := by decide +kernel
theorem dX9_waysNow_40 : decode cX9_waysNow 40 = .ok (.iload_n 3, 1) := by decide +kernel
theorem dX9_waysNow_41 : decode cX9_waysNow 41 = .ok (.aload_n 0, 1) := by decide +kernel
theorem dX9_waysNow_42 : decode cX9_waysNow 42 = .ok (.invokevirtual 192, 3) := by decide +kernel
theorem dX9_waysNow_45 : decode cX9_waysNow 45 = .ok (.invokestatic 195, 3) := by decide +kernel
theorem dX9_waysNow_48 : decode cX9_waysNow 48 = .ok (.iconst 1, 1) := by decide +kernel
theorem dX9_waysNow_49 : decode cX9_waysNow 49 = .ok (.iadd, 1) := by decide +kernel
theorem dX9_waysNow_50 : decode cX9_waysNow 50 = .ok (.imul, 1) := by decide +kernel
theorem dX9_waysNow_51 : decode cX9_waysNow 51 = .ok (.iadd, 1) := by decide +kernel
theorem dX9_waysNow_52 : decode cX9_waysNow 52 = .ok (.istore_n 1, 1) := by decide +kernel
theorem dX9_waysNow_53 : decode cX9_waysNow 53 = .ok (.iinc 2 1, 3) := by decide +kernel
theorem dX9_waysNow_56 : decode cX9_waysNow 56 = .ok (.goto (-52), 3) := by decide +kernel
theorem dX9_waysNow_59 : decode cX9_waysNow 59 = .ok (.iload_n 1, 1) := by decide +kernel
theorem dX9_waysNow_60 : decode cX9_waysNow 60 = .ok (.ireturn, 1) := by decide +kernel
theorem dX9_ways_0 : decode cX9_ways 0 = .ok (.aload_n 0, 1) := by decide +kernel
theorem dX9_ways_1 : decode cX9_ways 1 = .ok (.invokevirtual 270, 3) := by decide +kernel
theorem dX9_ways_4 : decode cX9_ways 4 = .ok (.ireturn, 1) := by decide +kernel
theorem dX9_passings_0 : decode cX9_passings 0 = .ok (.aload_n 0, 1) := by decide +kernel
theorem dX9_passings_1 : decode cX9_passings 1 = .ok (.iload_n 1, 1) := by decide +kernel
theorem dX9_passings_2 : decode cX9_passings 2 = .ok (.invokevirtual 172, 3) := by decide +kernel
theorem dX9_passings_5 : decode cX9_passings 5 = .ok (.ifCond .eq 11, 3) := by decide +kernel
theorem dX9_passings_8 : decode cX9_passings 8 = .ok (.aload_n 0, 1) := by decide +kernel
theorem dX9_passings_9 : decode cX9_passings 9 = .ok (.iload_n 2, 1) := by decide +kernel
theorem dX9_passings_10 : decode cX9_passings 10 = .ok (.invokevirtual 172, 3) := by decide +kernel
theorem dX9_passings_13 : decode cX9_passings 13 = .ok (.ifCond .ne 5, 3) := by decide +kernel
theorem dX9_passings_16 : decode cX9_passings 16 = .ok (.iconst (-1), 1) := by decide +kernel
theorem dX9_passings_17 : decode cX9_passings 17 = .ok (.ireturn, 1) := by decide +kernel
theorem dX9_passings_18 : decode cX9_passings 18 = .ok (.iload_n 1, 1) := by decide +kernel
theorem dX9_passings_19 : decode cX9_passings 19 = .ok (.istore_n 3, 1) := by decide +kernel
theorem dX9_passings_20 : decode cX9_passings 20 = .ok (.iload_n 2, 1) := by decide +kernel
theorem dX9_passings_21 : decode cX9_passings 21 = .ok (.istore 4, 2) := by decide +kernel
theorem dX9_passings_23 : decode cX9_passings 23 = .ok (.iconst 0, 1) := by decide +kernel
theorem dX9_passings_24 : decode cX9_passings 24 = .ok (.istore 5, 2) := by decide +kernel
theorem dX9_passings_26 : decode cX9_passings 26 = .ok (.iconst 1, 1) := by decide +kernel
theorem dX9_passings_27 : decode cX9_passings 27 = .ok (.istore 6, 2) := by decide +kernel
theorem dX9_passings_29 : decode cX9_passings 29 = .ok (.iload_n 3, 1) := by decide +kernel
theorem dX9_passings_30 : decode cX9_passings 30 = .ok (.iload 4, 2) := by decide +kernel
theorem dX9_passings_32 : decode cX9_passings 32 = .ok (.if_icmp .eq 113, 3) := by decide +kernel
theorem dX9_passings_35 : decode cX9_passings 35 = .ok (.iload_n 3, 1) := by decide +kernel
theorem dX9_passings_36 : decode cX9_passings 36 = .ok (.bipush 9, 2) := by decide +kernel
theorem dX9_passings_38 : decode cX9_passings 38 = .ok (.if_icmp .eq 107, 3) := by decide +kernel
theorem dX9_passings_41 : decode cX9_passings 41 = .ok (.iload 4, 2) := by decide +kernel
theorem dX9_passings_43 : decode cX9_passings 43 = .ok (.bipush 9, 2) := by decide +kernel
theorem dX9_passings_45 : decode cX9_passings 45 = .ok (.if_icmp .eq 100, 3) := by decide +kernel
theorem dX9_passings_48 : decode cX9_passings 48 = .ok (.aload_n 0, 1) := by decide +kernel
theorem dX9_passings_49 : decode cX9_passings 49 = .ok (.iload_n 3, 1) := by decide +kernel
theorem dX9_passings_50 : decode cX9_passings 50 = .ok (.invokevirtual 175, 3) := by decide +kernel
theorem dX9_passings_53 : decode cX9_passings 53 = .ok (.aload_n 0, 1) := by decide +kernel
theorem dX9_passings_54 : decode cX9_passings 54 = .ok (.iload 4, 2) := by decide +kernel
theorem dX9_passings_56 : decode cX9_passings 56 = .ok (.invokevirtual 175, 3) := by decide +kernel
theorem dX9_passings_59 : decode cX9_passings 59 = .ok (.if_icmp .lt 35, 3) := by decide +kernel
theorem dX9_passings_62 : decode cX9_passings 62 = .ok (.iload 6, 2) := by decide +kernel
theorem dX9_passings_64 : decode cX9_passings 64 = .ok (.ifCond .eq 17, 3) := by decide +kernel
theorem dX9_passings_67 : decode cX9_passings 67 = .ok (.aload_n 0, 1) := by decide +kernel
theorem dX9_passings_68 : decode cX9_passings 68 = .ok (.getfield 7, 3) := by decide +kernel
theorem dX9_passings_71 : decode cX9_passings 71 = .ok (.iload_n 3, 1) := by decide +kernel
theorem dX9_passings_72 : decode cX9_passings 72 = .ok (.iaload, 1) := by decide +kernel
theorem dX9_passings_73 : decode cX9_passings 73 = .ok (.iconst 1, 1) := by decide +kernel
theorem dX9_passings_74 : decode cX9_passings 74 = .ok (.if_icmp .eq 7, 3) := by decide +kernel
theorem dX9_passings_77 : decode cX9_passings 77 = .ok (.iconst 1, 1) := by decide +kernel
theorem dX9_passings_78 : decode cX9_passings 78 = .ok (.goto 4, 3) := by decide +kernel
theorem dX9_passings_81 : decode cX9_passings 81 = .ok (.iconst 0, 1) := by decide +kernel
theorem dX9_passings_82 : decode cX9_passings 82 = .ok (.istore 6, 2) := by decide +kernel
theorem dX9_passings_84 : decode cX9_passings 84 = .ok (.aload_n 0, 1) := by decide +kernel
theorem dX9_passings_85 : decode cX9_passings 85 = .ok (.getfield 16, 3) := by decide +kernel
theorem dX9_passings_88 : decode cX9_passings 88 = .ok (.iload_n 3, 1) := by decide +kernel
theorem dX9_passings_89 : decode cX9_passings 89 = .ok (.iaload, 1) := by decide +kernel
theorem dX9_passings_90 : decode cX9_passings 90 = .ok (.istore_n 3, 1) := by decide +kernel
theorem dX9_passings_91 : decode cX9_passings 91 = .ok (.goto 48, 3) := by decide +kernel
theorem dX9_passings_94 : decode cX9_passings 94 = .ok (.aload_n 0, 1) := by decide +kernel
theorem dX9_passings_95 : decode cX9_passings 95 = .ok (.getfield 16, 3) := by decide +kernel
theorem dX9_passings_98 : decode cX9_passings 98 = .ok (.iload 4, 2) := by decide +kernel
theorem dX9_passings_100 : decode cX9_passings 100 = .ok (.iaload, 1) := by decide +kernel
theorem dX9_passings_101 : decode cX9_passings 101 = .ok (.istore 4, 2) := by decide +kernel
theorem dX9_passings_103 : decode cX9_passings 103 = .ok (.iload 6, 2) := by decide +kernel
theorem dX9_passings_105 : decode cX9_passings 105 = .ok (.ifCond .eq 31, 3) := by decide +kernel
theorem dX9_passings_108 : decode cX9_passings 108 = .ok (.iload 4, 2) := by decide +kernel
theorem dX9_passings_110 : decode cX9_passings 110 = .ok (.bipush 9, 2) := by decide +kernel
theorem dX9_passings_112 : decode cX9_passings 112 = .ok (.if_icmp .eq 20, 3) := by decide +kernel
theorem dX9_passings_115 : decode cX9_passings 115 = .ok (.iload 4, 2) := by decide +kernel
theorem dX9_passings_117 : decode cX9_passings 117 = .ok (.iload_n 3, 1) := by decide +kernel
theorem dX9_passings_118 : decode cX9_passings 118 = .ok (.if_icmp .eq 14, 3) := by decide +kernel
theorem dX9_passings_121 : decode cX9_passings 121 = .ok (.aload_n 0, 1) := by decide +kernel
theorem dX9_passings_122 : decode cX9_passings 122 = .ok (.getfield 7, 3) := by decide +kernel
theorem dX9_passings_125 : decode cX9_passings 125 = .ok (.iload 4, 2) := by decide +kernel
theorem dX9_passings_127 : decode cX9_passings 127 = .ok (.iaload, 1) := by decide +kernel
theorem dX9_passings_128 : decode cX9_passings 128 = .ok (.iconst 1, 1) := by decide +kernel
theorem dX9_passings_129 : decode cX9_passings 129 = .ok (.if_icmp .eq 7, 3) := by decide +kernel
theorem dX9_passings_132 : decode cX9_passings 132 = .ok (.iconst 1, 1) := by decide +kernel
theorem dX9_passings_133 : decode cX9_passings 133 = .ok (.goto 4, 3) := by decide +kernel
theorem dX9_passings_136 : decode cX9_passings 136 = .ok (.iconst 0, 1) := by decide +kernel
theorem dX9_passings_137 : decode cX9_passings 137 = .ok (.istore 6, 2) := by decide +kernel
theorem dX9_passings_139 : decode cX9_passings 139 = .ok (.iinc 5 1, 3) := by decide +kernel
theorem dX9_passings_142 : decode cX9_passings 142 = .ok (.goto (-113), 3) := by decide +kernel
theorem dX9_passings_145 : decode cX9_passings 145 = .ok (.iload 6, 2) := by decide +kernel
theorem dX9_passings_147 : decode cX9_passings 147 = .ok (.ifCond .eq 34, 3) := by decide +kernel
theorem dX9_passings_150 : decode cX9_passings 150 = .ok (.iload_n 3, 1) := by decide +kernel
theorem dX9_passings_151 : decode cX9_passings 151 = .ok (.iload 4, 2) := by decide +kernel
theorem dX9_passings_153 : decode cX9_passings 153 = .ok (.if_icmp .ne 28, 3) := by decide +kernel
theorem dX9_passings_156 : decode cX9_passings 156 = .ok (.iload_n 3, 1) := by decide +kernel
theorem dX9_passings_157 : decode cX9_passings 157 = .ok (.bipush 9, 2) := by decide +kernel
theorem dX9_passings_159 : decode cX9_passings 159 = .ok (.if_icmp .eq 22, 3) := by decide +kernel
theorem dX9_passings_162 : decode cX9_passings 162 = .ok (.iload_n 3, 1) := by decide +kernel
theorem dX9_passings_163 : decode cX9_passings 163 = .ok (.iload_n 2, 1) := by decide +kernel
theorem dX9_passings_164 : decode cX9_passings 164 = .ok (.if_icmp .eq 13, 3) := by decide +kernel
theorem dX9_passings_167 : decode cX9_passings 167 = .ok (.aload_n 0, 1) := by decide +kernel
theorem dX9_passings_168 : decode cX9_passings 168 = .ok (.getfield 7, 3) := by decide +kernel
theorem dX9_passings_171 : decode cX9_passings 171 = .ok (.iload_n 3, 1) := by decide +kernel
theorem dX9_passings_172 : decode cX9_passings 172 = .ok (.iaload, 1) := by decide +kernel
theorem dX9_passings_173 : decode cX9_passings 173 = .ok (.iconst 1, 1) := by decide +kernel
theorem dX9_passings_174 : decode cX9_passings 174 = .ok (.if_icmp .eq 7, 3) := by decide +kernel
theorem dX9_passings_177 : decode cX9_passings 177 = .ok (.iconst 1, 1) := by decide +kernel
theorem dX9_passings_178 : decode cX9_passings 178 = .ok (.goto 4, 3) := by decide +kernel
theorem dX9_passings_181 : decode cX9_passings 181 = .ok (.iconst 0, 1) := by decide +kernel
theorem dX9_passings_182 : decode cX9_passings 182 = .ok (.istore 6, 2) := by decide +kernel
theorem dX9_passings_184 : decode cX9_passings 184 = .ok (.iload 6, 2) := by decide +kernel
theorem dX9_passings_186 : decode cX9_passings 186 = .ok (.ifCond .eq 8, 3) := by decide +kernel
theorem dX9_passings_189 : decode cX9_passings 189 = .ok (.iload 5, 2) := by decide +kernel
theorem dX9_passings_191 : decode cX9_passings 191 = .ok (.goto 4, 3) := by decide +kernel
theorem dX9_passings_194 : decode cX9_passings 194 = .ok (.iconst (-1), 1) := by decide +kernel
theorem dX9_passings_195 : decode cX9_passings 195 = .ok (.ireturn, 1) := by decide +kernel
theorem dX9_feed_0 : decode cX9_feed 0 = .ok (.aload_n 0, 1) := by decide +kernel
theorem dX9_feed_1 : decode cX9_feed 1 = .ok (.iload_n 1, 1) := by decide +kernel
theorem dX9_feed_2 : decode cX9_feed 2 = .ok (.invokevirtual 181, 3) := by decide +kernel
theorem dX9_feed_5 : decode cX9_feed 5 = .ok (.ifCond .eq 16, 3) := by decide +kernel
theorem dX9_feed_8 : decode cX9_feed 8 = .ok (.aload_n 0, 1) := by decide +kernel
theorem dX9_feed_9 : decode cX9_feed 9 = .ok (.iload_n 2, 1) := by decide +kernel
theorem dX9_feed_10 : decode cX9_feed 10 = .ok (.invokevirtual 181, 3) := by decide +kernel
theorem dX9_feed_13 : decode cX9_feed 13 = .ok (.ifCond .eq 8, 3) := by decide +kernel
theorem dX9_feed_16 : decode cX9_feed 16 = .ok (.iload_n 1, 1) := by decide +kernel
theorem dX9_feed_17 : decode cX9_feed 17 = .ok (.iload_n 2, 1) := by decide +kernel
theorem dX9_feed_18 : decode cX9_feed 18 = .ok (.if_icmp .ne 5, 3) := by decide +kernel
theorem dX9_feed_21 : decode cX9_feed 21 = .ok (.iconst (-1), 1) := by decide +kernel
theorem dX9_feed_22 : decode cX9_feed 22 = .ok (.ireturn, 1) := by decide +kernel
theorem dX9_feed_23 : decode cX9_feed 23 = .ok (.aload_n 0, 1) := by decide +kernel
theorem dX9_feed_24 : decode cX9_feed 24 = .ok (.iload_n 1, 1) := by decide +kernel
theorem dX9_feed_25 : decode cX9_feed 25 = .ok (.invokevirtual 172, 3) := by decide +kernel
theorem dX9_feed_28 : decode cX9_feed 28 = .ok (.ifCond .eq 11, 3) := by decide +kernel
theorem dX9_feed_31 : decode cX9_feed 31 = .ok (.aload_n 0, 1) := by decide +kernel
theorem dX9_feed_32 : decode cX9_feed 32 = .ok (.iload_n 2, 1) := by decide +kernel
theorem dX9_feed_33 : decode cX9_feed 33 = .ok (.invokevirtual 172, 3) := by decide +kernel
theorem dX9_feed_36 : decode cX9_feed 36 = .ok (.ifCond .ne 6, 3) := by decide +kernel
theorem dX9_feed_39 : decode cX9_feed 39 = .ok (.bipush (-4), 2) := by decide +kernel
theorem dX9_feed_41 : decode cX9_feed 41 = .ok (.ireturn, 1) := by decide +kernel
theorem dX9_feed_42 : decode cX9_feed 42 = .ok (.aload_n 0, 1) := by decide +kernel
theorem dX9_feed_43 : decode cX9_feed 43 = .ok (.iload_n 1, 1) := by decide +kernel
theorem dX9_feed_44 : decode cX9_feed 44 = .ok (.iload_n 2, 1) := by decide +kernel
theorem dX9_feed_45 : decode cX9_feed 45 = .ok (.invokevirtual 203, 3) := by decide +kernel
theorem dX9_feed_48 : decode cX9_feed 48 = .ok (.istore_n 3, 1) := by decide +kernel
theorem dX9_feed_49 : decode cX9_feed 49 = .ok (.iload_n 3, 1) := by decide +kernel
theorem dX9_feed_50 : decode cX9_feed 50 = .ok (.ifCond .ge 8, 3) := by decide +kernel
theorem dX9_feed_53 : decode cX9_feed 53 = .ok (.bipush (-9), 2) := by decide +kernel
theorem dX9_feed_55 : decode cX9_feed 55 = .ok (.goto 4, 3) := by decide +kernel
theorem dX9_feed_58 : decode cX9_feed 58 = .ok (.iload_n 3, 1) := by decide +kernel
theorem dX9_feed_59 : decode cX9_feed 59 = .ok (.ireturn, 1) := by decide +kernel
theorem dX9_spoons_0 : decode cX9_spoons 0 = .ok (.aload_n 0, 1) := by decide +kernel
theorem dX9_spoons_1 : decode cX9_spoons 1 = .ok (.invokevirtual 192, 3) := by decide +kernel
theorem dX9_spoons_4 : decode cX9_spoons 4 = .ok (.istore_n 1, 1) := by decide +kernel
theorem dX9_spoons_5 : decode cX9_spoons 5 = .ok (.iload_n 1, 1) := by decide +kernel
theorem dX9_spoons_6 : decode cX9_spoons 6 = .ok (.istore_n 2, 1) := by decide +kernel
theorem dX9_spoons_7 : decode cX9_spoons 7 = .ok (.iconst 0, 1) := by decide +kernel
theorem dX9_spoons_8 : decode cX9_spoons 8 = .ok (.istore_n 3, 1) := by decide +kernel
theorem dX9_spoons_9 : decode cX9_spoons 9 = .ok (.iload_n 3, 1) := by decide +kernel
theorem dX9_spoons_10 : decode cX9_spoons 10 = .ok (.iconst 1, 1) := by decide +kernel
theorem dX9_spoons_11 : decode cX9_spoons 11 = .ok (.aload_n 0, 1) := by decide +kernel
theorem dX9_spoons_12 : decode cX9_spoons 12 = .ok (.getfield 120, 3) := by decide +kernel
theorem dX9_spoons_15 : decode cX9_spoons 15 = .ok (.ishl, 1) := by decide +kernel
theorem dX9_spoons_16 : decode cX9_spoons 16 = .ok (.if_icmp .ge 113, 3) := by decide +kernel
theorem dX9_spoons_19 : decode cX9_spoons 19 = .ok (.iload_n 3, 1) := by decide +kernel
theorem dX9_spoons_20 : decode cX9_spoons 20 = .ok (.istore 4, 2) := by decide +kernel
theorem dX9_spoons_22 : decode cX9_spoons 22 = .ok (.iconst 0, 1) := by decide +kernel
theorem dX9_spoons_23 : decode cX9_spoons 23 = .ok (.istore 5, 2) := by decide +kernel
theorem dX9_spoons_25 : decode cX9_spoons 25 = .ok (.iload 5, 2) := by decide +kernel
theorem dX9_spoons_27 : decode cX9_spoons 27 = .ok (.aload_n 0, 1) := by decide +kernel
theorem dX9_spoons_28 : decode cX9_spoons 28 = .ok (.getfield 120, 3) := by decide +kernel
theorem dX9_spoons_31 : decode cX9_spoons 31 = .ok (.if_icmp .ge 33, 3) := by decide +kernel
theorem dX9_spoons_34 : decode cX9_spoons 34 = .ok (.iload 4, 2) := by decide +kernel
theorem dX9_spoons_36 : decode cX9_spoons 36 = .ok (.iload_n 3, 1) := by decide +kernel
theorem dX9_spoons_37 : decode cX9_spoons 37 = .ok (.iload 5, 2) := by decide +kernel
theorem dX9_spoons_39 : decode cX9_spoons 39 = .ok (.invokestatic 238, 3) := by decide +kernel
theorem dX9_spoons_42 : decode cX9_spoons 42 = .ok (.ifCond .eq 12, 3) := by decide +kernel
theorem dX9_spoons_45 : decode cX9_spoons 45 = .ok (.aload_n 0, 1) := by decide +kernel
theorem dX9_spoons_46 : decode cX9_spoons 46 = .ok (.iload 5, 2) := by decide +kernel
theorem dX9_spoons_48 : decode cX9_spoons 48 = .ok (.invokevirtual 216, 3) := by decide +kernel
theorem dX9_spoons_51 : decode cX9_spoons 51 = .ok (.goto 4, 3) := by decide +kernel
theorem dX9_spoons_54 : decode cX9_spoons 54 = .ok (.iconst 0, 1) := by decide +kernel
theorem dX9_spoons_55 : decode cX9_spoons 55 = .ok (.ior, 1) := by decide +kernel
theorem dX9_spoons_56 : decode cX9_spoons 56 = .ok (.istore 4, 2) := by decide +kernel
theorem dX9_spoons_58 : decode cX9_spoons 58 = .ok (.iinc 5 1, 3) := by decide +kernel
theorem dX9_spoons_61 : decode cX9_spoons 61 = .ok (.goto (-36), 3) := by decide +kernel
theorem dX9_spoons_64 : decode cX9_spoons 64 = .ok (.iload_n 3, 1) := by decide +kernel
theorem dX9_spoons_65 : decode cX9_spoons 65 = .ok (.iload_n 1, 1) := by decide +kernel
theorem dX9_spoons_66 : decode cX9_spoons 66 = .ok (.iconst (-1), 1) := by decide +kernel
theorem dX9_spoons_67 : decode cX9_spoons 67 = .ok (.ixor, 1) := by decide +kernel
theorem dX9_spoons_68 : decode cX9_spoons 68 = .ok (.iand, 1) := by decide +kernel
theorem dX9_spoons_69 : decode cX9_spoons 69 = .ok (.ifCond .ne 40, 3) := by decide +kernel
theorem dX9_spoons_72 : decode cX9_spoons 72 = .ok (.iload 4, 2) := by decide +kernel
theorem dX9_spoons_74 : decode cX9_spoons 74 = .ok (.iload_n 1, 1) := by decide +kernel
theorem dX9_spoons_75 : decode cX9_spoons 75 = .ok (.if_icmp .ne 34, 3) := by decide +kernel
theorem dX9_spoons_78 : decode cX9_spoons 78 = .ok (.iload_n 3, 1) := by decide +kernel
theorem dX9_spoons_79 : decode cX9_spoons 79 = .ok (.invokestatic 195, 3) := by decide +kernel
theorem dX9_spoons_82 : decode cX9_spoons 82 = .ok (.iload_n 2, 1) := by decide +kernel
theorem dX9_spoons_83 : decode cX9_spoons 83 = .ok (.invokestatic 195, 3) := by decide +kernel
theorem dX9_spoons_86 : decode cX9_spoons 86 = .ok (.if_icmp .lt 19, 3) := by decide +kernel
theorem dX9_spoons_89 : decode cX9_spoons 89 = .ok (.iload_n 3, 1) := by decide +kernel
theorem dX9_spoons_90 : decode cX9_spoons 90 = .ok (.invokestatic 195, 3) := by decide +kernel
theorem dX9_spoons_93 : decode cX9_spoons 93 = .ok (.iload_n 2, 1) := by decide +kernel
theorem dX9_spoons_94 : decode cX9_spoons 94 = .ok (.invokestatic 195, 3) := by decide +kernel
theorem dX9_spoons_97 : decode cX9_spoons 97 = .ok (.if_icmp .ne 12, 3) := by decide +kernel
theorem dX9_spoons_100 : decode cX9_spoons 100 = .ok (.iload_n 3, 1) := by decide +kernel
theorem dX9_spoons_101 : decode cX9_spoons 101 = .ok (.iload_n 2, 1) := by decide +kernel
theorem dX9_spoons_102 : decode cX9_spoons 102 = .ok (.if_icmp .ge 7, 3) := by decide +kernel
theorem dX9_spoons_105 : decode cX9_spoons 105 = .ok (.iconst 1, 1) := by decide +kernel
theorem dX9_spoons_106 : decode cX9_spoons 106 = .ok (.goto 4, 3) := by decide +kernel
theorem dX9_spoons_109 : decode cX9_spoons 109 = .ok (.iconst 0, 1) := by decide +kernel
theorem dX9_spoons_110 : decode cX9_spoons 110 = .ok (.istore 5, 2) := by decide +kernel
theorem dX9_spoons_112 : decode cX9_spoons 112 = .ok (.iload 5, 2) := by decide +kernel
theorem dX9_spoons_114 : decode cX9_spoons 114 = .ok (.ifCond .eq 7, 3) := by decide +kernel
theorem dX9_spoons_117 : decode cX9_spoons 117 = .ok (.iload_n 3, 1) := by decide +kernel
theorem dX9_spoons_118 : decode cX9_spoons 118 = .ok (.goto 4, 3) := by decide +kernel
theorem dX9_spoons_121 : decode cX9_spoons 121 = .ok (.iload_n 2, 1) := by decide +kernel
theorem dX9_spoons_122 : decode cX9_spoons 122 = .ok (.istore_n 2, 1) := by decide +kernel
theorem dX9_spoons_123 : decode cX9_spoons 123 = .ok (.iinc 3 1, 3) := by decide +kernel
theorem dX9_spoons_126 : decode cX9_spoons 126 = .ok (.goto (-117), 3) := by decide +kernel
theorem dX9_spoons_129 : decode cX9_spoons 129 = .ok (.aload_n 0, 1) := by decide +kernel
theorem dX9_spoons_130 : decode cX9_spoons 130 = .ok (.iload_n 2, 1) := by decide +kernel
theorem dX9_spoons_131 : decode cX9_spoons 131 = .ok (.putfield 131, 3) := by decide +kernel
theorem dX9_spoons_134 : decode cX9_spoons 134 = .ok (.iload_n 2, 1) := by decide +kernel
theorem dX9_spoons_135 : decode cX9_spoons 135 = .ok (.invokestatic 195, 3) := by decide +kernel
theorem dX9_spoons_138 : decode cX9_spoons 138 = .ok (.ireturn, 1) := by decide +kernel
theorem dX9_mayCome_0 : decode cX9_mayCome 0 = .ok (.aload_n 0, 1) := by decide +kernel
theorem dX9_mayCome_1 : decode cX9_mayCome 1 = .ok (.iload_n 1, 1) := by decide +kernel
theorem dX9_mayCome_2 : decode cX9_mayCome 2 = .ok (.invokevirtual 172, 3) := by decide +kernel
theorem dX9_mayCome_5 : decode cX9_mayCome 5 = .ok (.ifCond .eq 39, 3) := by decide +kernel
theorem dX9_mayCome_8 : decode cX9_mayCome 8 = .ok (.iload_n 2, 1) := by decide +kernel
theorem dX9_mayCome_9 : decode cX9_mayCome 9 = .ok (.iload_n 1, 1) := by decide +kernel
theorem dX9_mayCome_10 : decode cX9_mayCome 10 = .ok (.invokestatic 238, 3) := by decide +kernel
theorem dX9_mayCome_13 : decode cX9_mayCome 13 = .ok (.ifCond .ne 31, 3) := by decide +kernel
theorem dX9_mayCome_16 : decode cX9_mayCome 16 = .ok (.aload_n 0, 1) := by decide +kernel
theorem dX9_mayCome_17 : decode cX9_mayCome 17 = .ok (.getfield 16, 3) := by decide +kernel
theorem dX9_mayCome_20 : decode cX9_mayCome 20 = .ok (.iload_n 1, 1) := by decide +kernel
theorem dX9_mayCome_21 : decode cX9_mayCome 21 = .ok (.iaload, 1) := by decide +kernel
theorem dX9_mayCome_22 : decode cX9_mayCome 22 = .ok (.bipush 9, 2) := by decide +kernel
theorem dX9_mayCome_24 : decode cX9_mayCome 24 = .ok (.if_icmp .eq 16, 3) := by decide +kernel
theorem dX9_mayCome_27 : decode cX9_mayCome 27 = .ok (.iload_n 2, 1) := by decide +kernel
theorem dX9_mayCome_28 : decode cX9_mayCome 28 = .ok (.aload_n 0, 1) := by decide +kernel
theorem dX9_mayCome_29 : decode cX9_mayCome 29 = .ok (.getfield 16, 3) := by decide +kernel
theorem dX9_mayCome_32 : decode cX9_mayCome 32 = .ok (.iload_n 1, 1) := by decide +kernel
theorem dX9_mayCome_33 : decode cX9_mayCome 33 = .ok (.iaload, 1) := by decide +kernel
theorem dX9_mayCome_34 : decode cX9_mayCome 34 = .ok (.invokestatic 238, 3) := by decide +kernel
theorem dX9_mayCome_37 : decode cX9_mayCome 37 = .ok (.ifCond .eq 7, 3) := by decide +kernel
theorem dX9_mayCome_40 : decode cX9_mayCome 40 = .ok (.iconst 1, 1) := by decide +kernel
theorem dX9_mayCome_41 : decode cX9_mayCome 41 = .ok (.goto 4, 3) := by decide +kernel
theorem dX9_mayCome_44 : decode cX9_mayCome 44 = .ok (.iconst 0, 1) := by decide +kernel
theorem dX9_mayCome_45 : decode cX9_mayCome 45 = .ok (.ireturn, 1) := by decide +kernel
theorem dX9_findBehind_0 : decode cX9_findBehind 0 = .ok (.aload_n 0, 1) := by decide +kernel
theorem dX9_findBehind_1 : decode cX9_findBehind 1 = .ok (.invokevirtual 192, 3) := by decide +kernel
theorem dX9_findBehind_4 : decode cX9_findBehind 4 = .ok (.istore_n 1, 1) := by decide +kernel
theorem dX9_findBehind_5 : decode cX9_findBehind 5 = .ok (.bipush 127, 2) := by decide +kernel
theorem dX9_findBehind_7 : decode cX9_findBehind 7 = .ok (.istore_n 2, 1) := by decide +kernel
theorem dX9_findBehind_8 : decode cX9_findBehind 8 = .ok (.iload_n 2, 1) := by decide +kernel
theorem dX9_findBehind_9 : decode cX9_findBehind 9 = .ok (.ifCond .lt 81, 3) := by decide +kernel
theorem dX9_findBehind_12 : decode cX9_findBehind 12 = .ok (.aload_n 0, 1) := by decide +kernel
theorem dX9_findBehind_13 : decode cX9_findBehind 13 = .ok (.getfield 98, 3) := by decide +kernel
theorem dX9_findBehind_16 : decode cX9_findBehind 16 = .ok (.iload_n 2, 1) := by decide +kernel
theorem dX9_findBehind_17 : decode cX9_findBehind 17 = .ok (.iload_n 2, 1) := by decide +kernel
theorem dX9_findBehind_18 : decode cX9_findBehind 18 = .ok (.iload_n 1, 1) := by decide +kernel
theorem dX9_findBehind_19 : decode cX9_findBehind 19 = .ok (.if_icmp .ne 7, 3) := by decide +kernel
theorem dX9_findBehind_22 : decode cX9_findBehind 22 = .ok (.lconst 1, 1) := by decide +kernel
theorem dX9_findBehind_23 : decode cX9_findBehind 23 = .ok (.goto 4, 3) := by decide +kernel
theorem dX9_findBehind_26 : decode cX9_findBehind 26 = .ok (.lconst 0, 1) := by decide +kernel
theorem dX9_findBehind_27 : decode cX9_findBehind 27 = .ok (.lastore, 1) := by decide +kernel
theorem dX9_findBehind_28 : decode cX9_findBehind 28 = .ok (.iconst 0, 1) := by decide +kernel
theorem dX9_findBehind_29 : decode cX9_findBehind 29 = .ok (.istore_n 3, 1) := by decide +kernel
theorem dX9_findBehind_30 : decode cX9_findBehind 30 = .ok (.iload_n 3, 1) := by decide +kernel
theorem dX9_findBehind_31 : decode cX9_findBehind 31 = .ok (.aload_n 0, 1) := by decide +kernel
theorem dX9_findBehind_32 : decode cX9_findBehind 32 = .ok (.getfield 120, 3) := by decide +kernel
theorem dX9_findBehind_35 : decode cX9_findBehind 35 = .ok (.if_icmp .ge 49, 3) := by decide +kernel
theorem dX9_findBehind_38 : decode cX9_findBehind 38 = .ok (.iload_n 2, 1) := by decide +kernel
theorem dX9_findBehind_39 : decode cX9_findBehind 39 = .ok (.iload_n 1, 1) := by decide +kernel
theorem dX9_findBehind_40 : decode cX9_findBehind 40 = .ok (.iconst (-1), 1) := by decide +kernel
theorem dX9_findBehind_41 : decode cX9_findBehind 41 = .ok (.ixor, 1) := by decide +kernel
theorem dX9_findBehind_42 : decode cX9_findBehind 42 = .ok (.iand, 1) := by decide +kernel
theorem dX9_findBehind_43 : decode cX9_findBehind 43 = .ok (.ifCond .ne 41, 3) := by decide +kernel
theorem dX9_findBehind_46 : decode cX9_findBehind 46 = .ok (.aload_n 0, 1) := by decide +kernel
theorem dX9_findBehind_47 : decode cX9_findBehind 47 = .ok (.getfield 98, 3) := by decide +kernel
theorem dX9_findBehind_50 : decode cX9_findBehind 50 = .ok (.iload_n 2, 1) := by decide +kernel
theorem dX9_findBehind_51 : decode cX9_findBehind 51 = .ok (.dup2, 1) := by decide +kernel
theorem dX9_findBehind_52 : decode cX9_findBehind 52 = .ok (.laload, 1) := by decide +kernel
theorem dX9_findBehind_53 : decode cX9_findBehind 53 = .ok (.aload_n 0, 1) := by decide +kernel
theorem dX9_findBehind_54 : decode cX9_findBehind 54 = .ok (.iload_n 3, 1) := by decide +kernel
theorem dX9_findBehind_55 : decode cX9_findBehind 55 = .ok (.iload_n 2, 1) := by decide +kernel
theorem dX9_findBehind_56 : decode cX9_findBehind 56 = .ok (.invokevirtual 273, 3) := by decide +kernel
theorem dX9_findBehind_59 : decode cX9_findBehind 59 = .ok (.ifCond .eq 16, 3) := by decide +kernel
theorem dX9_findBehind_62 : decode cX9_findBehind 62 = .ok (.aload_n 0, 1) := by decide +kernel
theorem dX9_findBehind_63 : decode cX9_findBehind 63 = .ok (.getfield 98, 3) := by decide +kernel
theorem dX9_findBehind_66 : decode cX9_findBehind 66 = .ok (.iload_n 2, 1) := by decide +kernel
theorem dX9_findBehind_67 : decode cX9_findBehind 67 = .ok (.iconst 1, 1) := by decide +kernel
theorem dX9_findBehind_68 : decode cX9_findBehind 68 = .ok (.iload_n 3, 1) := by decide +kernel
theorem dX9_findBehind_69 : decode cX9_findBehind 69 = .ok (.ishl, 1) := by decide +kernel
theorem dX9_findBehind_70 : decode cX9_findBehind 70 = .ok (.ior, 1) := by decide +kernel
theorem dX9_findBehind_71 : decode cX9_findBehind 71 = .ok (.laload, 1) := by decide +kernel
theorem dX9_findBehind_72 : decode cX9_findBehind 72 = .ok (.goto 4, 3) := by decide +kernel
theorem dX9_findBehind_75 : decode cX9_findBehind 75 = .ok (.lconst 0, 1) := by decide +kernel
theorem dX9_findBehind_76 : decode cX9_findBehind 76 = .ok (.ladd, 1) := by decide +kernel
theorem dX9_findBehind_77 : decode cX9_findBehind 77 = .ok (.lastore, 1) := by decide +kernel
theorem dX9_findBehind_78 : decode cX9_findBehind 78 = .ok (.iinc 3 1, 3) := by decide +kernel
theorem dX9_findBehind_81 : decode cX9_findBehind 81 = .ok (.goto (-51), 3) := by decide +kernel
theorem dX9_findBehind_84 : decode cX9_findBehind 84 = .ok (.iinc 2 (-1), 3) := by decide +kernel
theorem dX9_findBehind_87 : decode cX9_findBehind 87 = .ok (.goto (-79), 3) := by decide +kernel
theorem dX9_findBehind_90 : decode cX9_findBehind 90 = .ok (.return_, 1) := by decide +kernel
theorem dX9_findAhead_0 : decode cX9_findAhead 0 = .ok (.iconst 0, 1) := by decide +kernel
theorem dX9_findAhead_1 : decode cX9_findAhead 1 = .ok (.istore_n 1, 1) := by decide +kernel
theorem dX9_findAhead_2 : decode cX9_findAhead 2 = .ok (.iload_n 1, 1) := by decide +kernel
theorem dX9_findAhead_3 : decode cX9_findAhead 3 = .ok (.sipush 128, 3) := by decide +kernel
theorem dX9_findAhead_6 : decode cX9_findAhead 6 = .ok (.if_icmp .ge 24, 3) := by decide +kernel
theorem dX9_findAhead_9 : decode cX9_findAhead 9 = .ok (.aload_n 0, 1) := by decide +kernel
theorem dX9_findAhead_10 : decode cX9_findAhead 10 = .ok (.getfield 102, 3) := by decide +kernel
theorem dX9_findAhead_13 : decode cX9_findAhead 13 = .ok (.iload_n 1, 1) := by decide +kernel
theorem dX9_findAhead_14 : decode cX9_findAhead 14 = .ok (.iload_n 1, 1) := by decide +kernel
theorem dX9_findAhead_15 : decode cX9_findAhead 15 = .ok (.ifCond .ne 7, 3) := by decide +kernel
theorem dX9_findAhead_18 : decode cX9_findAhead 18 = .ok (.lconst 1, 1) := by decide +kernel
theorem dX9_findAhead_19 : decode cX9_findAhead 19 = .ok (.goto 4, 3) := by decide +kernel
theorem dX9_findAhead_22 : decode cX9_findAhead 22 = .ok (.lconst 0, 1) := by decide +kernel
theorem dX9_findAhead_23 : decode cX9_findAhead 23 = .ok (.lastore, 1) := by decide +kernel
theorem dX9_findAhead_24 : decode cX9_findAhead 24 = .ok (.iinc 1 1, 3) := by decide +kernel
theorem dX9_findAhead_27 : decode cX9_findAhead 27 = .ok (.goto (-25), 3) := by decide +kernel
theorem dX9_findAhead_30 : decode cX9_findAhead 30 = .ok (.iconst 0, 1) := by decide +kernel
theorem dX9_findAhead_31 : decode cX9_findAhead 31 = .ok (.istore_n 1, 1) := by decide +kernel
theorem dX9_findAhead_32 : decode cX9_findAhead 32 = .ok (.iload_n 1, 1) := by decide +kernel
theorem dX9_findAhead_33 : decode cX9_findAhead 33 = .ok (.sipush 128, 3) := by decide +kernel
theorem dX9_findAhead_36 : decode cX9_findAhead 36 = .ok (.if_icmp .ge 64, 3) := by decide +kernel
theorem dX9_findAhead_39 : decode cX9_findAhead 39 = .ok (.iconst 0, 1) := by decide +kernel
theorem dX9_findAhead_40 : decode cX9_findAhead 40 = .ok (.istore_n 2, 1) := by decide +kernel
theorem dX9_findAhead_41 : decode cX9_findAhead 41 = .ok (.iload_n 2, 1) := by decide +kernel
theorem dX9_findAhead_42 : decode cX9_findAhead 42 = .ok (.aload_n 0, 1) := by decide +kernel
theorem dX9_findAhead_43 : decode cX9_findAhead 43 = .ok (.getfield 120, 3) := by decide +kernel
theorem dX9_findAhead_46 : decode cX9_findAhead 46 = .ok (.if_icmp .ge 48, 3) := by decide +kernel
theorem dX9_findAhead_49 : decode cX9_findAhead 49 = .ok (.aload_n 0, 1) := by decide +kernel
theorem dX9_findAhead_50 : decode cX9_findAhead 50 = .ok (.getfield 102, 3) := by decide +kernel
theorem dX9_findAhead_53 : decode cX9_findAhead 53 = .ok (.iload_n 1, 1) := by decide +kernel
theorem dX9_findAhead_54 : decode cX9_findAhead 54 = .ok (.laload, 1) := by decide +kernel
theorem dX9_findAhead_55 : decode cX9_findAhead 55 = .ok (.lconst 0, 1) := by decide +kernel
theorem dX9_findAhead_56 : decode cX9_findAhead 56 = .ok (.lcmp, 1) := by decide +kernel
theorem dX9_findAhead_57 : decode cX9_findAhead 57 = .ok (.ifCond .le 37, 3) := by decide +kernel
theorem dX9_findAhead_60 : decode cX9_findAhead 60 = .ok (.aload_n 0, 1) := by decide +kernel
theorem dX9_findAhead_61 : decode cX9_findAhead 61 = .ok (.iload_n 2, 1) := by decide +kernel
theorem dX9_findAhead_62 : decode cX9_findAhead 62 = .ok (.iload_n 1, 1) := by decide +kernel
theorem dX9_findAhead_63 : decode cX9_findAhead 63 = .ok (.invokevirtual 273, 3) := by decide +kernel
theorem dX9_findAhead_66 : decode cX9_findAhead 66 = .ok (.ifCond .eq 22, 3) := by decide +kernel
theorem dX9_findAhead_69 : decode cX9_findAhead 69 = .ok (.aload_n 0, 1) := by decide +kernel
theorem dX9_findAhead_70 : decode cX9_findAhead 70 = .ok (.getfield 102, 3) := by decide +kernel
theorem dX9_findAhead_73 : decode cX9_findAhead 73 = .ok (.iload_n 1, 1) := by decide +kernel
theorem dX9_findAhead_74 : decode cX9_findAhead 74 = .ok (.iconst 1, 1) := by decide +kernel
theorem dX9_findAhead_75 : decode cX9_findAhead 75 = .ok (.iload_n 2, 1) := by decide +kernel
theorem dX9_findAhead_76 : decode cX9_findAhead 76 = .ok (.ishl, 1) := by decide +kernel
theorem dX9_findAhead_77 : decode cX9_findAhead 77 = .ok (.ior, 1) := by decide +kernel
theorem dX9_findAhead_78 : decode cX9_findAhead 78 = .ok (.dup2, 1) := by decide +kernel
theorem dX9_findAhead_79 : decode cX9_findAhead 79 = .ok (.laload, 1) := by decide +kernel
theorem dX9_findAhead_80 : decode cX9_findAhead 80 = .ok (.aload_n 0, 1) := by decide +kernel
theorem dX9_findAhead_81 : decode cX9_findAhead 81 = .ok (.getfield 102, 3) := by decide +kernel
theorem dX9_findAhead_84 : decode cX9_findAhead 84 = .ok (.iload_n 1, 1) := by decide +kernel
theorem dX9_findAhead_85 : decode cX9_findAhead 85 = .ok (.laload, 1) := by decide +kernel
theorem dX9_findAhead_86 : decode cX9_findAhead 86 = .ok (.ladd, 1) := by decide +kernel
theorem dX9_findAhead_87 : decode cX9_findAhead 87 = .ok (.lastore, 1) := by decide +kernel
theorem dX9_findAhead_88 : decode cX9_findAhead 88 = .ok (.iinc 2 1, 3) := by decide +kernel
theorem dX9_findAhead_91 : decode cX9_findAhead 91 = .ok (.goto (-50), 3) := by decide +kernel
theorem dX9_findAhead_94 : decode cX9_findAhead 94 = .ok (.iinc 1 1, 3) := by decide +kernel
theorem dX9_findAhead_97 : decode cX9_findAhead 97 = .ok (.goto (-65), 3) := by decide +kernel
theorem dX9_findAhead_100 : decode cX9_findAhead 100 = .ok (.return_, 1) := by decide +kernel
theorem dX9_tellOdds_0 : decode cX9_tellOdds 0 = .ok (.lload_n 1, 1) := by decide +kernel
theorem dX9_tellOdds_1 : decode cX9_tellOdds 1 = .ok (.lstore 5, 2) := by decide +kernel
theorem dX9_tellOdds_3 : decode cX9_tellOdds 3 = .ok (.lload_n 3, 1) := by decide +kernel
theorem dX9_tellOdds_4 : decode cX9_tellOdds 4 = .ok (.lstore 7, 2) := by decide +kernel
theorem dX9_tellOdds_6 : decode cX9_tellOdds 6 = .ok (.lload 7, 2) := by decide +kernel
theorem dX9_tellOdds_8 : decode cX9_tellOdds 8 = .ok (.lconst 0, 1) := by decide +kernel
theorem dX9_tellOdds_9 : decode cX9_tellOdds 9 = .ok (.lcmp, 1) := by decide +kernel
theorem dX9_tellOdds_10 : decode cX9_tellOdds 10 = .ok (.ifCond .eq 21, 3) := by decide +kernel
theorem dX9_tellOdds_13 : decode cX9_tellOdds 13 = .ok (.lload 5, 2) := by decide +kernel
theorem dX9_tellOdds_15 : decode cX9_tellOdds 15 = .ok (.lload 7, 2) := by decide +kernel
theorem dX9_tellOdds_17 : decode cX9_tellOdds 17 = .ok (.lrem, 1) := by decide +kernel
theorem dX9_tellOdds_18 : decode cX9_tellOdds 18 = .ok (.lstore 9, 2) := by decide +kernel
theorem dX9_tellOdds_20 : decode cX9_tellOdds 20 = .ok (.lload 7, 2) := by decide +kernel
theorem dX9_tellOdds_22 : decode cX9_tellOdds 22 = .ok (.lstore 5, 2) := by decide +kernel
theorem dX9_tellOdds_24 : decode cX9_tellOdds 24 = .ok (.lload 9, 2) := by decide +kernel
theorem dX9_tellOdds_26 : decode cX9_tellOdds 26 = .ok (.lstore 7, 2) := by decide +kernel
theorem dX9_tellOdds_28 : decode cX9_tellOdds 28 = .ok (.goto (-22), 3) := by decide +kernel
theorem dX9_tellOdds_31 : decode cX9_tellOdds 31 = .ok (.aload_n 0, 1) := by decide +kernel
theorem dX9_tellOdds_32 : decode cX9_tellOdds 32 = .ok (.lload_n 1, 1) := by decide +kernel
theorem dX9_tellOdds_33 : decode cX9_tellOdds 33 = .ok (.lload 5, 2) := by decide +kernel
theorem dX9_tellOdds_35 : decode cX9_tellOdds 35 = .ok (.ldiv, 1) := by decide +kernel
theorem dX9_tellOdds_36 : decode cX9_tellOdds 36 = .ok (.putfield 276, 3) := by decide +kernel
theorem dX9_tellOdds_39 : decode cX9_tellOdds 39 = .ok (.aload_n 0, 1) := by decide +kernel
theorem dX9_tellOdds_40 : decode cX9_tellOdds 40 = .ok (.lload_n 3, 1) := by decide +kernel
theorem dX9_tellOdds_41 : decode cX9_tellOdds 41 = .ok (.lload 5, 2) := by decide +kernel
theorem dX9_tellOdds_43 : decode cX9_tellOdds 43 = .ok (.ldiv, 1) := by decide +kernel
theorem dX9_tellOdds_44 : decode cX9_tellOdds 44 = .ok (.putfield 37, 3) := by decide +kernel
theorem dX9_tellOdds_47 : decode cX9_tellOdds 47 = .ok (.return_, 1) := by decide +kernel
theorem dX9_orders_0 : decode cX9_orders 0 = .ok (.aload_n 0, 1) := by decide +kernel
theorem dX9_orders_1 : decode cX9_orders 1 = .ok (.invokevirtual 279, 3) := by decide +kernel
theorem dX9_orders_4 : decode cX9_orders 4 = .ok (.aload_n 0, 1) := by decide +kernel
theorem dX9_orders_5 : decode cX9_orders 5 = .ok (.aload_n 0, 1) := by decide +kernel
theorem dX9_orders_6 : decode cX9_orders 6 = .ok (.getfield 98, 3) := by decide +kernel
theorem dX9_orders_9 : decode cX9_orders 9 = .ok (.iconst 0, 1) := by decide +kernel
theorem dX9_orders_10 : decode cX9_orders 10 = .ok (.laload, 1) := by decide +kernel
theorem dX9_orders_11 : decode cX9_orders 11 = .ok (.putfield 276, 3) := by decide +kernel
theorem dX9_orders_14 : decode cX9_orders 14 = .ok (.aload_n 0, 1) := by decide +kernel
theorem dX9_orders_15 : decode cX9_orders 15 = .ok (.lconst 1, 1) := by decide +kernel
theorem dX9_orders_16 : decode cX9_orders 16 = .ok (.putfield 37, 3) := by decide +kernel
theorem dX9_orders_19 : decode cX9_orders 19 = .ok (.iconst 1, 1) := by decide +kernel
theorem dX9_orders_20 : decode cX9_orders 20 = .ok (.ireturn, 1) := by decide +kernel
theorem dX9_came_0 : decode cX9_came 0 = .ok (.aload_n 0, 1) := by decide +kernel
theorem dX9_came_1 : decode cX9_came 1 = .ok (.iload_n 1, 1) := by decide +kernel
theorem dX9_came_2 : decode cX9_came 2 = .ok (.invokevirtual 181, 3) := by decide +kernel
theorem dX9_came_5 : decode cX9_came 5 = .ok (.ifCond .eq 7, 3) := by decide +kernel
theorem dX9_came_8 : decode cX9_came 8 = .ok (.iload_n 2, 1) := by decide +kernel
theorem dX9_came_9 : decode cX9_came 9 = .ok (.ifCond .ge 5, 3) := by decide +kernel
theorem dX9_came_12 : decode cX9_came 12 = .ok (.iconst (-1), 1) := by decide +kernel
theorem dX9_came_13 : decode cX9_came 13 = .ok (.ireturn, 1) := by decide +kernel
theorem dX9_came_14 : decode cX9_came 14 = .ok (.aload_n 0, 1) := by decide +kernel
theorem dX9_came_15 : decode cX9_came 15 = .ok (.invokevirtual 192, 3) := by decide +kernel
theorem dX9_came_18 : decode cX9_came 18 = .ok (.ifCond .ne 9, 3) := by decide +kernel
theorem dX9_came_21 : decode cX9_came 21 = .ok (.aload_n 0, 1) := by decide +kernel
theorem dX9_came_22 : decode cX9_came 22 = .ok (.iconst 4, 1) := by decide +kernel
theorem dX9_came_23 : decode cX9_came 23 = .ok (.invokevirtual 127, 3) := by decide +kernel
theorem dX9_came_26 : decode cX9_came 26 = .ok (.ireturn, 1) := by decide +kernel
theorem dX9_came_27 : decode cX9_came 27 = .ok (.aload_n 0, 1) := by decide +kernel
theorem dX9_came_28 : decode cX9_came 28 = .ok (.invokevirtual 279, 3) := by decide +kernel
theorem dX9_came_31 : decode cX9_came 31 = .ok (.aload_n 0, 1) := by decide +kernel
theorem dX9_came_32 : decode cX9_came 32 = .ok (.invokevirtual 282, 3) := by decide +kernel
theorem dX9_came_35 : decode cX9_came 35 = .ok (.lconst 0, 1) := by decide +kernel
theorem dX9_came_36 : decode cX9_came 36 = .ok (.lstore_n 3, 1) := by decide +kernel
theorem dX9_came_37 : decode cX9_came 37 = .ok (.iconst 0, 1) := by decide +kernel
theorem dX9_came_38 : decode cX9_came 38 = .ok (.istore 5, 2) := by decide +kernel
theorem dX9_came_40 : decode cX9_came 40 = .ok (.iload 5, 2) := by decide +kernel
theorem dX9_came_42 : decode cX9_came 42 = .ok (.sipush 128, 3) := by decide +kernel
theorem dX9_came_45 : decode cX9_came 45 = .ok (.if_icmp .ge 78, 3) := by decide +kernel
theorem dX9_came_48 : decode cX9_came 48 = .ok (.iload 5, 2) := by decide +kernel
theorem dX9_came_50 : decode cX9_came 50 = .ok (.invokestatic 195, 3) := by decide +kernel
theorem dX9_came_53 : decode cX9_came 53 = .ok (.iload_n 2, 1) := by decide +kernel
theorem dX9_came_54 : decode cX9_came 54 = .ok (.if_icmp .ne 29, 3) := by decide +kernel
theorem dX9_came_57 : decode cX9_came 57 = .ok (.aload_n 0, 1) := by decide +kernel
theorem dX9_came_58 : decode cX9_came 58 = .ok (.getfield 102, 3) := by decide +kernel
theorem dX9_came_61 : decode cX9_came 61 = .ok (.iload 5, 2) := by decide +kernel
theorem dX9_came_63 : decode cX9_came 63 = .ok (.laload, 1) := by decide +kernel
theorem dX9_came_64 : decode cX9_came 64 = .ok (.lconst 0, 1) := by decide +kernel
theorem dX9_came_65 : decode cX9_came 65 = .ok (.lcmp, 1) := by decide +kernel
theorem dX9_came_66 : decode cX9_came 66 = .ok (.ifCond .le 17, 3) := by decide +kernel
theorem dX9_came_69 : decode cX9_came 69 = .ok (.aload_n 0, 1) := by decide +kernel
theorem dX9_came_70 : decode cX9_came 70 = .ok (.iload_n 1, 1) := by decide +kernel
theorem dX9_came_71 : decode cX9_came 71 = .ok (.iload 5, 2) := by decide +kernel
theorem dX9_came_73 : decode cX9_came 73 = .ok (.invokevirtual 273, 3) := by decide +kernel
theorem dX9_came_76 : decode cX9_came 76 = .ok (.ifCond .eq 7, 3) := by decide +kernel
theorem dX9_came_79 : decode cX9_came 79 = .ok (.iconst 1, 1) := by decide +kernel
theorem dX9_came_80 : decode cX9_came 80 = .ok (.goto 4, 3) := by decide +kernel
theorem dX9_came_83 : decode cX9_came 83 = .ok (.iconst 0, 1) := by decide +kernel
theorem dX9_came_84 : decode cX9_came 84 = .ok (.istore 6, 2) := by decide +kernel
theorem dX9_came_86 : decode cX9_came 86 = .ok (.lload_n 3, 1) := by decide +kernel
theorem dX9_came_87 : decode cX9_came 87 = .ok (.iload 6, 2) := by decide +kernel
theorem dX9_came_89 : decode cX9_came 89 = .ok (.ifCond .eq 25, 3) := by decide +kernel
theorem dX9_came_92 : decode cX9_came 92 = .ok (.aload_n 0, 1) := by decide +kernel
theorem dX9_came_93 : decode cX9_came 93 = .ok (.getfield 102, 3) := by decide +kernel
theorem dX9_came_96 : decode cX9_came 96 = .ok (.iload 5, 2) := by decide +kernel
theorem dX9_came_98 : decode cX9_came 98 = .ok (.laload, 1) := by decide +kernel
theorem dX9_came_99 : decode cX9_came 99 = .ok (.aload_n 0, 1) := by decide +kernel
theorem dX9_came_100 : decode cX9_came 100 = .ok (.getfield 98, 3) := by decide +kernel
theorem dX9_came_103 : decode cX9_came 103 = .ok (.iload 5, 2) := by decide +kernel
theorem dX9_came_105 : decode cX9_came 105 = .ok (.iconst 1, 1) := by decide +kernel
theorem dX9_came_106 : decode cX9_came 106 = .ok (.iload_n 1, 1) := by decide +kernel
theorem dX9_came_107 : decode cX9_came 107 = .ok (.ishl, 1) := by decide +kernel
theorem dX9_came_108 : decode cX9_came 108 = .ok (.ior, 1) := by decide +kernel
theorem dX9_came_109 : decode cX9_came 109 = .ok (.laload, 1) := by decide +kernel
theorem dX9_came_110 : decode cX9_came 110 = .ok (.lmul, 1) := by decide +kernel
theorem dX9_came_111 : decode cX9_came 111 = .ok (.goto 4, 3) := by decide +kernel
theorem dX9_came_114 : decode cX9_came 114 = .ok (.lconst 0, 1) := by decide +kernel
theorem dX9_came_115 : decode cX9_came 115 = .ok (.ladd, 1) := by decide +kernel
theorem dX9_came_116 : decode cX9_came 116 = .ok (.lstore_n 3, 1) := by decide +kernel
theorem dX9_came_117 : decode cX9_came 117 = .ok (.iinc 5 1, 3) := by decide +kernel
theorem dX9_came_120 : decode cX9_came 120 = .ok (.goto (-80), 3) := by decide +kernel
theorem dX9_came_123 : decode cX9_came 123 = .ok (.aload_n 0, 1) := by decide +kernel
theorem dX9_came_124 : decode cX9_came 124 = .ok (.lload_n 3, 1) := by decide +kernel
theorem dX9_came_125 : decode cX9_came 125 = .ok (.aload_n 0, 1) := by decide +kernel
theorem dX9_came_126 : decode cX9_came 126 = .ok (.getfield 98, 3) := by decide +kernel
theorem dX9_came_129 : decode cX9_came 129 = .ok (.iconst 0, 1) := by decide +kernel
theorem dX9_came_130 : decode cX9_came 130 = .ok (.laload, 1) := by decide +kernel
theorem dX9_came_131 : decode cX9_came 131 = .ok (.invokevirtual 285, 3) := by decide +kernel
theorem dX9_came_134 : decode cX9_came 134 = .ok (.iconst 1, 1) := by decide +kernel
theorem dX9_came_135 : decode cX9_came 135 = .ok (.ireturn, 1) := by decide +kernel
theorem dX9_ahead_0 : decode cX9_ahead 0 = .ok (.aload_n 0, 1) := by decide +kernel
theorem dX9_ahead_1 : decode cX9_ahead 1 = .ok (.iload_n 1, 1) := by decide +kernel
theorem dX9_ahead_2 : decode cX9_ahead 2 = .ok (.invokevirtual 181, 3) := by decide +kernel
theorem dX9_ahead_5 : decode cX9_ahead 5 = .ok (.ifCond .eq 32, 3) := by decide +kernel
theorem dX9_ahead_8 : decode cX9_ahead 8 = .ok (.aload_n 0, 1) := by decide +kernel
theorem dX9_ahead_9 : decode cX9_ahead 9 = .ok (.iload_n 2, 1) := by decide +kernel
theorem dX9_ahead_10 : decode cX9_ahead 10 = .ok (.invokevirtual 181, 3) := by decide +kernel
theorem dX9_ahead_13 : decode cX9_ahead 13 = .ok (.ifCond .eq 24, 3) := by decide +kernel
theorem dX9_ahead_16 : decode cX9_ahead 16 = .ok (.iload_n 1, 1) := by decide +kernel
theorem dX9_ahead_17 : decode cX9_ahead 17 = .ok (.iload_n 2, 1) := by decide +kernel
theorem dX9_ahead_18 : decode cX9_ahead 18 = .ok (.if_icmp .eq 19, 3) := by decide +kernel
theorem dX9_ahead_21 : decode cX9_ahead 21 = .ok (.aload_n 0, 1) := by decide +kernel
theorem dX9_ahead_22 : decode cX9_ahead 22 = .ok (.iload_n 1, 1) := by decide +kernel
theorem dX9_ahead_23 : decode cX9_ahead 23 = .ok (.invokevirtual 172, 3) := by decide +kernel
theorem dX9_ahead_26 : decode cX9_ahead 26 = .ok (.ifCond .eq 11, 3) := by decide +kernel
theorem dX9_ahead_29 : decode cX9_ahead 29 = .ok (.aload_n 0, 1) := by decide +kernel
theorem dX9_ahead_30 : decode cX9_ahead 30 = .ok (.iload_n 2, 1) := by decide +kernel
theorem dX9_ahead_31 : decode cX9_ahead 31 = .ok (.invokevirtual 172, 3) := by decide +kernel
theorem dX9_ahead_34 : decode cX9_ahead 34 = .ok (.ifCond .ne 5, 3) := by decide +kernel
theorem dX9_ahead_37 : decode cX9_ahead 37 = .ok (.iconst (-1), 1) := by decide +kernel
theorem dX9_ahead_38 : decode cX9_ahead 38 = .ok (.ireturn, 1) := by decide +kernel
theorem dX9_ahead_39 : decode cX9_ahead 39 = .ok (.aload_n 0, 1) := by decide +kernel
theorem dX9_ahead_40 : decode cX9_ahead 40 = .ok (.invokevirtual 279, 3) := by decide +kernel
theorem dX9_ahead_43 : decode cX9_ahead 43 = .ok (.aload_n 0, 1) := by decide +kernel
theorem dX9_ahead_44 : decode cX9_ahead 44 = .ok (.invokevirtual 282, 3) := by decide +kernel
theorem dX9_ahead_47 : decode cX9_ahead 47 = .ok (.lconst 0, 1) := by decide +kernel
theorem dX9_ahead_48 : decode cX9_ahead 48 = .ok (.lstore_n 3, 1) := by decide +kernel
theorem dX9_ahead_49 : decode cX9_ahead 49 = .ok (.iconst 0, 1) := by decide +kernel
theorem dX9_ahead_50 : decode cX9_ahead 50 = .ok (.istore 5, 2) := by decide +kernel
theorem dX9_ahead_52 : decode cX9_ahead 52 = .ok (.iload 5, 2) := by decide +kernel
theorem dX9_ahead_54 : decode cX9_ahead 54 = .ok (.sipush 128, 3) := by decide +kernel
theorem dX9_ahead_57 : decode cX9_ahead 57 = .ok (.if_icmp .ge 78, 3) := by decide +kernel
theorem dX9_ahead_60 : decode cX9_ahead 60 = .ok (.iload 5, 2) := by decide +kernel
theorem dX9_ahead_62 : decode cX9_ahead 62 = .ok (.iload_n 2, 1) := by decide +kernel
theorem dX9_ahead_63 : decode cX9_ahead 63 = .ok (.invokestatic 238, 3) := by decide +kernel
theorem dX9_ahead_66 : decode cX9_ahead 66 = .ok (.ifCond .ne 29, 3) := by decide +kernel
theorem dX9_ahead_69 : decode cX9_ahead 69 = .ok (.aload_n 0, 1) := by decide +kernel
theorem dX9_ahead_70 : decode cX9_ahead 70 = .ok (.getfield 102, 3) := by decide +kernel
theorem dX9_ahead_73 : decode cX9_ahead 73 = .ok (.iload 5, 2) := by decide +kernel
theorem dX9_ahead_75 : decode cX9_ahead 75 = .ok (.laload, 1) := by decide +kernel
theorem dX9_ahead_76 : decode cX9_ahead 76 = .ok (.lconst 0, 1) := by decide +kernel
theorem dX9_ahead_77 : decode cX9_ahead 77 = .ok (.lcmp, 1) := by decide +kernel
theorem dX9_ahead_78 : decode cX9_ahead 78 = .ok (.ifCond .le 17, 3) := by decide +kernel
theorem dX9_ahead_81 : decode cX9_ahead 81 = .ok (.aload_n 0, 1) := by decide +kernel
theorem dX9_ahead_82 : decode cX9_ahead 82 = .ok (.iload_n 1, 1) := by decide +kernel
theorem dX9_ahead_83 : decode cX9_ahead 83 = .ok (.iload 5, 2) := by decide +kernel
theorem dX9_ahead_85 : decode cX9_ahead 85 = .ok (.invokevirtual 273, 3) := by decide +kernel
theorem dX9_ahead_88 : decode cX9_ahead 88 = .ok (.ifCond .eq 7, 3) := by decide +kernel
theorem dX9_ahead_91 : decode cX9_ahead 91 = .ok (.iconst 1, 1) := by decide +kernel
theorem dX9_ahead_92 : decode cX9_ahead 92 = .ok (.goto 4, 3) := by decide +kernel
theorem dX9_ahead_95 : decode cX9_ahead 95 = .ok (.iconst 0, 1) := by decide +kernel
theorem dX9_ahead_96 : decode cX9_ahead 96 = .ok (.istore 6, 2) := by decide +kernel
theorem dX9_ahead_98 : decode cX9_ahead 98 = .ok (.lload_n 3, 1) := by decide +kernel
theorem dX9_ahead_99 : decode cX9_ahead 99 = .ok (.iload 6, 2) := by decide +kernel
theorem dX9_ahead_101 : decode cX9_ahead 101 = .ok (.ifCond .eq 25, 3) := by decide +kernel
theorem dX9_ahead_104 : decode cX9_ahead 104 = .ok (.aload_n 0, 1) := by decide +kernel
theorem dX9_ahead_105 : decode cX9_ahead 105 = .ok (.getfield 102, 3) := by decide +kernel
theorem dX9_ahead_108 : decode cX9_ahead 108 = .ok (.iload 5, 2) := by decide +kernel
theorem dX9_ahead_110 : decode cX9_ahead 110 = .ok (.laload, 1) := by decide +kernel
theorem dX9_ahead_111 : decode cX9_ahead 111 = .ok (.aload_n 0, 1) := by decide +kernel
theorem dX9_ahead_112 : decode cX9_ahead 112 = .ok (.getfield 98, 3) := by decide +kernel
theorem dX9_ahead_115 : decode cX9_ahead 115 = .ok (.iload 5, 2) := by decide +kernel
theorem dX9_ahead_117 : decode cX9_ahead 117 = .ok (.iconst 1, 1) := by decide +kernel
theorem dX9_ahead_118 : decode cX9_ahead 118 = .ok (.iload_n 1, 1) := by decide +kernel
theorem dX9_ahead_119 : decode cX9_ahead 119 = .ok (.ishl, 1) := by decide +kernel
theorem dX9_ahead_120 : decode cX9_ahead 120 = .ok (.ior, 1) := by decide +kernel
theorem dX9_ahead_121 : decode cX9_ahead 121 = .ok (.laload, 1) := by decide +kernel
theorem dX9_ahead_122 : decode cX9_ahead 122 = .ok (.lmul, 1) := by decide +kernel
theorem dX9_ahead_123 : decode cX9_ahead 123 = .ok (.goto 4, 3) := by decide +kernel
theorem dX9_ahead_126 : decode cX9_ahead 126 = .ok (.lconst 0, 1) := by decide +kernel
theorem dX9_ahead_127 : decode cX9_ahead 127 = .ok (.ladd, 1) := by decide +kernel
theorem dX9_ahead_128 : decode cX9_ahead 128 = .ok (.lstore_n 3, 1) := by decide +kernel
theorem dX9_ahead_129 : decode cX9_ahead 129 = .ok (.iinc 5 1, 3) := by decide +kernel
theorem dX9_ahead_132 : decode cX9_ahead 132 = .ok (.goto (-80), 3) := by decide +kernel
theorem dX9_ahead_135 : decode cX9_ahead 135 = .ok (.aload_n 0, 1) := by decide +kernel
theorem dX9_ahead_136 : decode cX9_ahead 136 = .ok (.lload_n 3, 1) := by decide +kernel
theorem dX9_ahead_137 : decode cX9_ahead 137 = .ok (.aload_n 0, 1) := by decide +kernel
theorem dX9_ahead_138 : decode cX9_ahead 138 = .ok (.getfield 98, 3) := by decide +kernel
theorem dX9_ahead_141 : decode cX9_ahead 141 = .ok (.iconst 0, 1) := by decide +kernel
theorem dX9_ahead_142 : decode cX9_ahead 142 = .ok (.laload, 1) := by decide +kernel
theorem dX9_ahead_143 : decode cX9_ahead 143 = .ok (.invokevirtual 285, 3) := by decide +kernel
theorem dX9_ahead_146 : decode cX9_ahead 146 = .ok (.iconst 1, 1) := by decide +kernel
theorem dX9_ahead_147 : decode cX9_ahead 147 = .ok (.ireturn, 1) := by decide +kernel
theorem dX9_nth_0 : decode cX9_nth 0 = .ok (.iload_n 1, 1) := by decide +kernel
theorem dX9_nth_1 : decode cX9_nth 1 = .ok (.ifCond .lt 10, 3) := by decide +kernel
theorem dX9_nth_4 : decode cX9_nth 4 = .ok (.iload_n 2, 1) := by decide +kernel
theorem dX9_nth_5 : decode cX9_nth 5 = .ok (.invokestatic 123, 3) := by decide +kernel
theorem dX9_nth_8 : decode cX9_nth 8 = .ok (.ifCond .ne 5, 3) := by decide +kernel
theorem dX9_nth_11 : decode cX9_nth 11 = .ok (.iconst (-1), 1) := by decide +kernel
theorem dX9_nth_12 : decode cX9_nth 12 = .ok (.ireturn, 1) := by decide +kernel
theorem dX9_nth_13 : decode cX9_nth 13 = .ok (.aload_n 0, 1) := by decide +kernel
theorem dX9_nth_14 : decode cX9_nth 14 = .ok (.invokevirtual 279, 3) := by decide +kernel
theorem dX9_nth_17 : decode cX9_nth 17 = .ok (.iload_n 1, 1) := by decide +kernel
theorem dX9_nth_18 : decode cX9_nth 18 = .ok (.i2l, 1) := by decide +kernel
theorem dX9_nth_19 : decode cX9_nth 19 = .ok (.aload_n 0, 1) := by decide +kernel
theorem dX9_nth_20 : decode cX9_nth 20 = .ok (.getfield 98, 3) := by decide +kernel
theorem dX9_nth_23 : decode cX9_nth 23 = .ok (.iconst 0, 1) := by decide +kernel
theorem dX9_nth_24 : decode cX9_nth 24 = .ok (.laload, 1) := by decide +kernel
theorem dX9_nth_25 : decode cX9_nth 25 = .ok (.lcmp, 1) := by decide +kernel
theorem dX9_nth_26 : decode cX9_nth 26 = .ok (.ifCond .lt 9, 3) := by decide +kernel
theorem dX9_nth_29 : decode cX9_nth 29 = .ok (.aload_n 0, 1) := by decide +kernel
theorem dX9_nth_30 : decode cX9_nth 30 = .ok (.iconst 4, 1) := by decide +kernel
theorem dX9_nth_31 : decode cX9_nth 31 = .ok (.invokevirtual 127, 3) := by decide +kernel
theorem dX9_nth_34 : decode cX9_nth 34 = .ok (.ireturn, 1) := by decide +kernel
theorem dX9_nth_35 : decode cX9_nth 35 = .ok (.aload_n 0, 1) := by decide +kernel
theorem dX9_nth_36 : decode cX9_nth 36 = .ok (.invokevirtual 192, 3) := by decide +kernel
theorem dX9_nth_39 : decode cX9_nth 39 = .ok (.invokestatic 195, 3) := by decide +kernel
theorem dX9_nth_42 : decode cX9_nth 42 = .ok (.istore_n 3, 1) := by decide +kernel
theorem dX9_nth_43 : decode cX9_nth 43 = .ok (.aload_n 0, 1) := by decide +kernel
theorem dX9_nth_44 : decode cX9_nth 44 = .ok (.iload_n 2, 1) := by decide +kernel
theorem dX9_nth_45 : decode cX9_nth 45 = .ok (.iload_n 3, 1) := by decide +kernel
theorem dX9_nth_46 : decode cX9_nth 46 = .ok (.invokevirtual 241, 3) := by decide +kernel
theorem dX9_nth_49 : decode cX9_nth 49 = .ok (.istore 4, 2) := by decide +kernel
theorem dX9_nth_51 : decode cX9_nth 51 = .ok (.iload_n 1, 1) := by decide +kernel
theorem dX9_nth_52 : decode cX9_nth 52 = .ok (.i2l, 1) := by decide +kernel
theorem dX9_nth_53 : decode cX9_nth 53 = .ok (.lstore 5, 2) := by decide +kernel
theorem dX9_nth_55 : decode cX9_nth 55 = .ok (.iconst 0, 1) := by decide +kernel
theorem dX9_nth_56 : decode cX9_nth 56 = .ok (.istore 7, 2) := by decide +kernel
theorem dX9_nth_58 : decode cX9_nth 58 = .ok (.iconst 0, 1) := by decide +kernel
theorem dX9_nth_59 : decode cX9_nth 59 = .ok (.istore 8, 2) := by decide +kernel
theorem dX9_nth_61 : decode cX9_nth 61 = .ok (.iload 8, 2) := by decide +kernel
theorem dX9_nth_63 : decode cX9_nth 63 = .ok (.iload_n 3, 1) := by decide +kernel
theorem dX9_nth_64 : decode cX9_nth 64 = .ok (.if_icmp .ge 102, 3) := by decide +kernel
theorem dX9_nth_67 : decode cX9_nth 67 = .ok (.iconst 0, 1) := by decide +kernel
theorem dX9_nth_68 : decode cX9_nth 68 = .ok (.istore 9, 2) := by decide +kernel
theorem dX9_nth_70 : decode cX9_nth 70 = .ok (.aload_n 0, 1) := by decide +kernel
theorem dX9_nth_71 : decode cX9_nth 71 = .ok (.iload 9, 2) := by decide +kernel
theorem dX9_nth_73 : decode cX9_nth 73 = .ok (.iload 7, 2) := by decide +kernel
theorem dX9_nth_75 : decode cX9_nth 75 = .ok (.invokevirtual 273, 3) := by decide +kernel
theorem dX9_nth_78 : decode cX9_nth 78 = .ok (.ifCond .eq 21, 3) := by decide +kernel
theorem dX9_nth_81 : decode cX9_nth 81 = .ok (.lload 5, 2) := by decide +kernel
theorem dX9_nth_83 : decode cX9_nth 83 = .ok (.aload_n 0, 1) := by decide +kernel
theorem dX9_nth_84 : decode cX9_nth 84 = .ok (.getfield 98, 3) := by decide +kernel
theorem dX9_nth_87 : decode cX9_nth 87 = .ok (.iload 7, 2) := by decide +kernel
theorem dX9_nth_89 : decode cX9_nth 89 = .ok (.iconst 1, 1) := by decide +kernel
theorem dX9_nth_90 : decode cX9_nth 90 = .ok (.iload 9, 2) := by decide +kernel
theorem dX9_nth_92 : decode cX9_nth 92 = .ok (.ishl, 1) := by decide +kernel
theorem dX9_nth_93 : decode cX9_nth 93 = .ok (.ior, 1) := by decide +kernel
theorem dX9_nth_94 : decode cX9_nth 94 = .ok (.laload, 1) := by decide +kernel
theorem dX9_nth_95 : decode cX9_nth 95 = .ok (.lcmp, 1) := by decide +kernel
theorem dX9_nth_96 : decode cX9_nth 96 = .ok (.ifCond .lt 41, 3) := by decide +kernel
theorem dX9_nth_99 : decode cX9_nth 99 = .ok (.lload 5, 2) := by decide +kernel
theorem dX9_nth_101 : decode cX9_nth 101 = .ok (.aload_n 0, 1) := by decide +kernel
theorem dX9_nth_102 : decode cX9_nth 102 = .ok (.iload 9, 2) := by decide +kernel
theorem dX9_nth_104 : decode cX9_nth 104 = .ok (.iload 7, 2) := by decide +kernel
theorem dX9_nth_106 : decode cX9_nth 106 = .ok (.invokevirtual 273, 3) := by decide +kernel
theorem dX9_nth_109 : decode cX9_nth 109 = .ok (.ifCond .eq 18, 3) := by decide +kernel
theorem dX9_nth_112 : decode cX9_nth 112 = .ok (.aload_n 0, 1) := by decide +kernel
theorem dX9_nth_113 : decode cX9_nth 113 = .ok (.getfield 98, 3) := by decide +kernel
theorem dX9_nth_116 : decode cX9_nth 116 = .ok (.iload 7, 2) := by decide +kernel
theorem dX9_nth_118 : decode cX9_nth 118 = .ok (.iconst 1, 1) := by decide +kernel
theorem dX9_nth_119 : decode cX9_nth 119 = .ok (.iload 9, 2) := by decide +kernel
theorem dX9_nth_121 : decode cX9_nth 121 = .ok (.ishl, 1) := by decide +kernel
theorem dX9_nth_122 : decode cX9_nth 122 = .ok (.ior, 1) := by decide +kernel
theorem dX9_nth_123 : decode cX9_nth 123 = .ok (.laload, 1) := by decide +kernel
theorem dX9_nth_124 : decode cX9_nth 124 = .ok (.goto 4, 3) := by decide +kernel
theorem dX9_nth_127 : decode cX9_nth 127 = .ok (.lconst 0, 1) := by decide +kernel
theorem dX9_nth_128 : decode cX9_nth 128 = .ok (.lsub, 1) := by decide +kernel
theorem dX9_nth_129 : decode cX9_nth 129 = .ok (.lstore 5, 2) := by decide +kernel
theorem dX9_nth_131 : decode cX9_nth 131 = .ok (.iinc 9 1, 3) := by decide +kernel
theorem dX9_nth_134 : decode cX9_nth 134 = .ok (.goto (-64), 3) := by decide +kernel
theorem dX9_nth_137 : decode cX9_nth 137 = .ok (.aload_n 0, 1) := by decide +kernel
theorem dX9_nth_138 : decode cX9_nth 138 = .ok (.getfield 47, 3) := by decide +kernel
theorem dX9_nth_141 : decode cX9_nth 141 = .ok (.bipush 40, 2) := by decide +kernel
theorem dX9_nth_143 : decode cX9_nth 143 = .ok (.iload_n 2, 1) := by decide +kernel
theorem dX9_nth_144 : decode cX9_nth 144 = .ok (.imul, 1) := by decide +kernel
theorem dX9_nth_145 : decode cX9_nth 145 = .ok (.iload 8, 2) := by decide +kernel
theorem dX9_nth_147 : decode cX9_nth 147 = .ok (.iadd, 1) := by decide +kernel
theorem dX9_nth_148 : decode cX9_nth 148 = .ok (.iload 9, 2) := by decide +kernel
theorem dX9_nth_150 : decode cX9_nth 150 = .ok (.iastore, 1) := by decide +kernel
theorem dX9_nth_151 : decode cX9_nth 151 = .ok (.iload 7, 2) := by decide +kernel
theorem dX9_nth_153 : decode cX9_nth 153 = .ok (.iconst 1, 1) := by decide +kernel
theorem dX9_nth_154 : decode cX9_nth 154 = .ok (.iload 9, 2) := by decide +kernel
theorem dX9_nth_156 : decode cX9_nth 156 = .ok (.ishl, 1) := by decide +kernel
theorem dX9_nth_157 : decode cX9_nth 157 = .ok (.ior, 1) := by decide +kernel
theorem dX9_nth_158 : decode cX9_nth 158 = .ok (.istore 7, 2) := by decide +kernel
theorem dX9_nth_160 : decode cX9_nth 160 = .ok (.iinc 8 1, 3) := by decide +kernel
theorem dX9_nth_163 : decode cX9_nth 163 = .ok (.goto (-102), 3) := by decide +kernel
theorem dX9_nth_166 : decode cX9_nth 166 = .ok (.iconst 1, 1) := by decide +kernel
theorem dX9_nth_167 : decode cX9_nth 167 = .ok (.ireturn, 1) := by decide +kernel
theorem dX9_deal_0 : decode cX9_deal 0 = .ok (.iload_n 2, 1) := by decide +kernel
theorem dX9_deal_1 : decode cX9_deal 1 = .ok (.invokestatic 195, 3) := by decide +kernel
theorem dX9_deal_4 : decode cX9_deal 4 = .ok (.istore_n 3, 1) := by decide +kernel
theorem dX9_deal_5 : decode cX9_deal 5 = .ok (.iconst 0, 1) := by decide +kernel
theorem dX9_deal_6 : decode cX9_deal 6 = .ok (.istore 4, 2) := by decide +kernel
theorem dX9_deal_8 : decode cX9_deal 8 = .ok (.iconst 0, 1) := by decide +kernel
theorem dX9_deal_9 : decode cX9_deal 9 = .ok (.istore 5, 2) := by decide +kernel
theorem dX9_deal_11 : decode cX9_deal 11 = .ok (.iload 5, 2) := by decide +kernel
theorem dX9_deal_13 : decode cX9_deal 13 = .ok (.aload_n 0, 1) := by decide +kernel
theorem dX9_deal_14 : decode cX9_deal 14 = .ok (.getfield 120, 3) := by decide +kernel
theorem dX9_deal_17 : decode cX9_deal 17 = .ok (.if_icmp .ge 45, 3) := by decide +kernel
theorem dX9_deal_20 : decode cX9_deal 20 = .ok (.iload_n 2, 1) := by decide +kernel
theorem dX9_deal_21 : decode cX9_deal 21 = .ok (.iload 5, 2) := by decide +kernel
theorem dX9_deal_23 : decode cX9_deal 23 = .ok (.invokestatic 238, 3) := by decide +kernel
theorem dX9_deal_26 : decode cX9_deal 26 = .ok (.ifCond .eq 30, 3) := by decide +kernel
theorem dX9_deal_29 : decode cX9_deal 29 = .ok (.aload_n 0, 1) := by decide +kernel
theorem dX9_deal_30 : decode cX9_deal 30 = .ok (.getfield 105, 3) := by decide +kernel
theorem dX9_deal_33 : decode cX9_deal 33 = .ok (.iload 5, 2) := by decide +kernel
theorem dX9_deal_35 : decode cX9_deal 35 = .ok (.iload_n 1, 1) := by decide +kernel
theorem dX9_deal_36 : decode cX9_deal 36 = .ok (.iload_n 3, 1) := by decide +kernel
theorem dX9_deal_37 : decode cX9_deal 37 = .ok (.idiv, 1) := by decide +kernel
theorem dX9_deal_38 : decode cX9_deal 38 = .ok (.iload 4, 2) := by decide +kernel
theorem dX9_deal_40 : decode cX9_deal 40 = .ok (.iload_n 1, 1) := by decide +kernel
theorem dX9_deal_41 : decode cX9_deal 41 = .ok (.iload_n 3, 1) := by decide +kernel
theorem dX9_deal_42 : decode cX9_deal 42 = .ok (.irem, 1) := by decide +kernel
theorem dX9_deal_43 : decode cX9_deal 43 = .ok (.if_icmp .ge 7, 3) := by decide +kernel
theorem dX9_deal_46 : decode cX9_deal 46 = .ok (.iconst 1, 1) := by decide +kernel
theorem dX9_deal_47 : decode cX9_deal 47 = .ok (.goto 4, 3) := by decide +kernel
theorem dX9_deal_50 : decode cX9_deal 50 = .ok (.iconst 0, 1) := by decide +kernel
theorem dX9_deal_51 : decode cX9_deal 51 = .ok (.iadd, 1) := by decide +kernel
theorem dX9_deal_52 : decode cX9_deal 52 = .ok (.iastore, 1) := by decide +kernel
theorem dX9_deal_53 : decode cX9_deal 53 = .ok (.iinc 4 1, 3) := by decide +kernel
theorem dX9_deal_56 : decode cX9_deal 56 = .ok (.iinc 5 1, 3) := by decide +kernel
theorem dX9_deal_59 : decode cX9_deal 59 = .ok (.goto (-48), 3) := by decide +kernel
theorem dX9_deal_62 : decode cX9_deal 62 = .ok (.return_, 1) := by decide +kernel
theorem dX9_gold_0 : decode cX9_gold 0 = .ok (.iload_n 1, 1) := by decide +kernel
theorem dX9_gold_1 : decode cX9_gold 1 = .ok (.i2l, 1) := by decide +kernel
theorem dX9_gold_2 : decode cX9_gold 2 = .ok (.lconst 0, 1) := by decide +kernel
theorem dX9_gold_3 : decode cX9_gold 3 = .ok (.ldc2_w 289, 3) := by decide +kernel
theorem dX9_gold_6 : decode cX9_gold 6 = .ok (.invokestatic 114, 3) := by decide +kernel
theorem dX9_gold_9 : decode cX9_gold 9 = .ok (.ifCond .eq 10, 3) := by decide +kernel
theorem dX9_gold_12 : decode cX9_gold 12 = .ok (.iload_n 2, 1) := by decide +kernel
theorem dX9_gold_13 : decode cX9_gold 13 = .ok (.invokestatic 123, 3) := by decide +kernel
theorem dX9_gold_16 : decode cX9_gold 16 = .ok (.ifCond .ne 5, 3) := by decide +kernel
theorem dX9_gold_19 : decode cX9_gold 19 = .ok (.iconst (-1), 1) := by decide +kernel
theorem dX9_gold_20 : decode cX9_gold 20 = .ok (.ireturn, 1) := by decide +kernel
theorem dX9_gold_21 : decode cX9_gold 21 = .ok (.aload_n 0, 1) := by decide +kernel
theorem dX9_gold_22 : decode cX9_gold 22 = .ok (.iload_n 2, 1) := by decide +kernel
theorem dX9_gold_23 : decode cX9_gold 23 = .ok (.aload_n 0, 1) := by decide +kernel
theorem dX9_gold_24 : decode cX9_gold 24 = .ok (.getfield 120, 3) := by decide +kernel
theorem dX9_gold_27 : decode cX9_gold 27 = .ok (.invokevirtual 241, 3) := by decide +kernel
theorem dX9_gold_30 : decode cX9_gold 30 = .ok (.istore_n 3, 1) := by decide +kernel
theorem dX9_gold_31 : decode cX9_gold 31 = .ok (.iconst 0, 1) := by decide +kernel
theorem dX9_gold_32 : decode cX9_gold 32 = .ok (.istore 4, 2) := by decide +kernel
theorem dX9_gold_34 : decode cX9_gold 34 = .ok (.iload 4, 2) := by decide +kernel
theorem dX9_gold_36 : decode cX9_gold 36 = .ok (.aload_n 0, 1) := by decide +kernel
theorem dX9_gold_37 : decode cX9_gold 37 = .ok (.getfield 120, 3) := by decide +kernel
theorem dX9_gold_40 : decode cX9_gold 40 = .ok (.if_icmp .ge 17, 3) := by decide +kernel
theorem dX9_gold_43 : decode cX9_gold 43 = .ok (.aload_n 0, 1) := by decide +kernel
theorem dX9_gold_44 : decode cX9_gold 44 = .ok (.getfield 105, 3) := by decide +kernel
theorem dX9_gold_47 : decode cX9_gold 47 = .ok (.iload 4, 2) := by decide +kernel
theorem dX9_gold_49 : decode cX9_gold 49 = .ok (.iconst 0, 1) := by decide +kernel
theorem dX9_gold_50 : decode cX9_gold 50 = .ok (.iastore, 1) := by decide +kernel
theorem dX9_gold_51 : decode cX9_gold 51 = .ok (.iinc 4 1, 3) := by decide +kernel
theorem dX9_gold_54 : decode cX9_gold 54 = .ok (.goto (-20), 3) := by decide +kernel
theorem dX9_gold_57 : decode cX9_gold 57 = .ok (.aload_n 0, 1) := by decide +kernel
theorem dX9_gold_58 : decode cX9_gold 58 = .ok (.iload_n 1, 1) := by decide +kernel
theorem dX9_gold_59 : decode cX9_gold 59 = .ok (.aload_n 0, 1) := by decide +kernel
theorem dX9_gold_60 : decode cX9_gold 60 = .ok (.bipush 9, 2) := by decide +kernel
theorem dX9_gold_62 : decode cX9_gold 62 = .ok (.invokevirtual 232, 3) := by decide +kernel
theorem dX9_gold_65 : decode cX9_gold 65 = .ok (.invokevirtual 291, 3) := by decide +kernel
theorem dX9_gold_68 : decode cX9_gold 68 = .ok (.iconst 1, 1) := by decide +kernel
theorem dX9_gold_69 : decode cX9_gold 69 = .ok (.istore 4, 2) := by decide +kernel
theorem dX9_gold_71 : decode cX9_gold 71 = .ok (.iload 4, 2) := by decide +kernel
theorem dX9_gold_73 : decode cX9_gold 73 = .ok (.bipush 8, 2) := by decide +kernel
theorem dX9_gold_75 : decode cX9_gold 75 = .ok (.if_icmp .ge 84, 3) := by decide +kernel
theorem dX9_gold_78 : decode cX9_gold 78 = .ok (.iconst 0, 1) := by decide +kernel
theorem dX9_gold_79 : decode cX9_gold 79 = .ok (.istore 5, 2) := by decide +kernel
theorem dX9_gold_81 : decode cX9_gold 81 = .ok (.iload 5, 2) := by decide +kernel
theorem dX9_gold_83 : decode cX9_gold 83 = .ok (.aload_n 0, 1) := by decide +kernel
theorem dX9_gold_84 : decode cX9_gold 84 = .ok (.getfield 120, 3) := by decide +kernel
theorem dX9_gold_87 : decode cX9_gold 87 = .ok (.if_icmp .ge 66, 3) := by decide +kernel
theorem dX9_gold_90 : decode cX9_gold 90 = .ok (.aload_n 0, 1) := by decide +kernel
theorem dX9_gold_91 : decode cX9_gold 91 = .ok (.iload 5, 2) := by decide +kernel
theorem dX9_gold_93 : decode cX9_gold 93 = .ok (.invokevirtual 232, 3) := by decide +kernel
theorem dX9_gold_96 : decode cX9_gold 96 = .ok (.istore 6, 2) := by decide +kernel
theorem dX9_gold_98 : decode cX9_gold 98 = .ok (.aload_n 0, 1) := by decide +kernel
theorem dX9_gold_99 : decode cX9_gold 99 = .ok (.iload 5, 2) := by decide +kernel
theorem dX9_gold_101 : decode cX9_gold 101 = .ok (.invokevirtual 175, 3) := by decide +kernel
theorem dX9_gold_104 : decode cX9_gold 104 = .ok (.iload 4, 2) := by decide +kernel
theorem dX9_gold_106 : decode cX9_gold 106 = .ok (.if_icmp .ne 41, 3) := by decide +kernel
theorem dX9_gold_109 : decode cX9_gold 109 = .ok (.iload 6, 2) := by decide +kernel
theorem dX9_gold_111 : decode cX9_gold 111 = .ok (.ifCond .eq 36, 3) := by decide +kernel
theorem dX9_gold_114 : decode cX9_gold 114 = .ok (.aload_n 0, 1) := by decide +kernel
theorem dX9_gold_115 : decode cX9_gold 115 = .ok (.getfield 105, 3) := by decide +kernel
theorem dX9_gold_118 : decode cX9_gold 118 = .ok (.iload 5, 2) := by decide +kernel
theorem dX9_gold_120 : decode cX9_gold 120 = .ok (.iaload, 1) := by decide +kernel
theorem dX9_gold_121 : decode cX9_gold 121 = .ok (.ifCond .le 26, 3) := by decide +kernel
theorem dX9_gold_124 : decode cX9_gold 124 = .ok (.aload_n 0, 1) := by decide +kernel
theorem dX9_gold_125 : decode cX9_gold 125 = .ok (.aload_n 0, 1) := by decide +kernel
theorem dX9_gold_126 : decode cX9_gold 126 = .ok (.getfield 105, 3) := by decide +kernel
theorem dX9_gold_129 : decode cX9_gold 129 = .ok (.iload 5, 2) := by decide +kernel
theorem dX9_gold_131 : decode cX9_gold 131 = .ok (.iaload, 1) := by decide +kernel
theorem dX9_gold_132 : decode cX9_gold 132 = .ok (.iconst 1, 1) := by decide +kernel
theorem dX9_gold_133 : decode cX9_gold 133 = .ok (.isub, 1) := by decide +kernel
theorem dX9_gold_134 : decode cX9_gold 134 = .ok (.iload 6, 2) := by decide +kernel
theorem dX9_gold_136 : decode cX9_gold 136 = .ok (.invokevirtual 291, 3) := by decide +kernel
theorem dX9_gold_139 : decode cX9_gold 139 = .ok (.aload_n 0, 1) := by decide +kernel
theorem dX9_gold_140 : decode cX9_gold 140 = .ok (.getfield 105, 3) := by decide +kernel
theorem dX9_gold_143 : decode cX9_gold 143 = .ok (.iload 5, 2) := by decide +kernel
theorem dX9_gold_145 : decode cX9_gold 145 = .ok (.iconst 1, 1) := by decide +kernel
theorem dX9_gold_146 : decode cX9_gold 146 = .ok (.iastore, 1) := by decide +kernel
theorem dX9_gold_147 : decode cX9_gold 147 = .ok (.iinc 5 1, 3) := by decide +kernel
theorem dX9_gold_150 : decode cX9_gold 150 = .ok (.goto (-69), 3) := by decide +kernel
theorem dX9_gold_153 : decode cX9_gold 153 = .ok (.iinc 4 1, 3) := by decide +kernel
theorem dX9_gold_156 : decode cX9_gold 156 = .ok (.goto (-85), 3) := by decide +kernel
theorem dX9_gold_159 : decode cX9_gold 159 = .ok (.iconst 0, 1) := by decide +kernel
theorem dX9_gold_160 : decode cX9_gold 160 = .ok (.istore 4, 2) := by decide +kernel
theorem dX9_gold_162 : decode cX9_gold 162 = .ok (.iload 4, 2) := by decide +kernel
theorem dX9_gold_164 : decode cX9_gold 164 = .ok (.aload_n 0, 1) := by decide +kernel
theorem dX9_gold_165 : decode cX9_gold 165 = .ok (.getfield 120, 3) := by decide +kernel
theorem dX9_gold_168 : decode cX9_gold 168 = .ok (.if_icmp .ge 28, 3) := by decide +kernel
theorem dX9_gold_171 : decode cX9_gold 171 = .ok (.aload_n 0, 1) := by decide +kernel
theorem dX9_gold_172 : decode cX9_gold 172 = .ok (.getfield 47, 3) := by decide +kernel
theorem dX9_gold_175 : decode cX9_gold 175 = .ok (.bipush 40, 2) := by decide +kernel
theorem dX9_gold_177 : decode cX9_gold 177 = .ok (.iload_n 2, 1) := by decide +kernel
theorem dX9_gold_178 : decode cX9_gold 178 = .ok (.imul, 1) := by decide +kernel
theorem dX9_gold_179 : decode cX9_gold 179 = .ok (.iload 4, 2) := by decide +kernel
theorem dX9_gold_181 : decode cX9_gold 181 = .ok (.iadd, 1) := by decide +kernel
theorem dX9_gold_182 : decode cX9_gold 182 = .ok (.aload_n 0, 1) := by decide +kernel
theorem dX9_gold_183 : decode cX9_gold 183 = .ok (.getfield 105, 3) := by decide +kernel
theorem dX9_gold_186 : decode cX9_gold 186 = .ok (.iload 4, 2) := by decide +kernel
theorem dX9_gold_188 : decode cX9_gold 188 = .ok (.iaload, 1) := by decide +kernel
theorem dX9_gold_189 : decode cX9_gold 189 = .ok (.iastore, 1) := by decide +kernel
theorem dX9_gold_190 : decode cX9_gold 190 = .ok (.iinc 4 1, 3) := by decide +kernel
theorem dX9_gold_193 : decode cX9_gold 193 = .ok (.goto (-31), 3) := by decide +kernel
theorem dX9_gold_196 : decode cX9_gold 196 = .ok (.aload_n 0, 1) := by decide +kernel
theorem dX9_gold_197 : decode cX9_gold 197 = .ok (.bipush 9, 2) := by decide +kernel
theorem dX9_gold_199 : decode cX9_gold 199 = .ok (.invokevirtual 232, 3) := by decide +kernel
theorem dX9_gold_202 : decode cX9_gold 202 = .ok (.ifCond .ne 7, 3) := by decide +kernel
theorem dX9_gold_205 : decode cX9_gold 205 = .ok (.iload_n 1, 1) := by decide +kernel
theorem dX9_gold_206 : decode cX9_gold 206 = .ok (.goto 4, 3) := by decide +kernel
theorem dX9_gold_209 : decode cX9_gold 209 = .ok (.iconst 0, 1) := by decide +kernel
theorem dX9_gold_210 : decode cX9_gold 210 = .ok (.ireturn, 1) := by decide +kernel
theorem dX9_arePairs_0 : decode cX9_arePairs 0 = .ok (.iconst 1, 1) := by decide +kernel
theorem dX9_arePairs_1 : decode cX9_arePairs 1 = .ok (.istore_n 2, 1) := by decide +kernel
theorem dX9_arePairs_2 : decode cX9_arePairs 2 = .ok (.iconst 0, 1) := by decide +kernel
theorem dX9_arePairs_3 : decode cX9_arePairs 3 = .ok (.istore_n 3, 1) := by decide +kernel
theorem dX9_arePairs_4 : decode cX9_arePairs 4 = .ok (.iload_n 3, 1) := by decide +kernel
theorem dX9_arePairs_5 : decode cX9_arePairs 5 = .ok (.aload_n 0, 1) := by decide +kernel
theorem dX9_arePairs_6 : decode cX9_arePairs 6 = .ok (.getfield 44, 3) := by decide +kernel
theorem dX9_arePairs_9 : decode cX9_arePairs 9 = .ok (.iload_n 1, 1) := by decide +kernel
theorem dX9_arePairs_10 : decode cX9_arePairs 10 = .ok (.iaload, 1) := by decide +kernel
theorem dX9_arePairs_11 : decode cX9_arePairs 11 = .ok (.if_icmp .ge 51, 3) := by decide +kernel
theorem dX9_arePairs_14 : decode cX9_arePairs 14 = .ok (.iload_n 2, 1) := by decide +kernel
theorem dX9_arePairs_15 : decode cX9_arePairs 15 = .ok (.ifCond .eq 39, 3) := by decide +kernel
theorem dX9_arePairs_18 : decode cX9_arePairs 18 = .ok (.aload_n 0, 1) := by decide +kernel
theorem dX9_arePairs_19 : decode cX9_arePairs 19 = .ok (.getfield 47, 3) := by decide +kernel
theorem dX9_arePairs_22 : decode cX9_arePairs 22 = .ok (.bipush 40, 2) := by decide +kernel
theorem dX9_arePairs_24 : decode cX9_arePairs 24 = .ok (.iload_n 1, 1) := by decide +kernel
theorem dX9_arePairs_25 : decode cX9_arePairs 25 = .ok (.imul, 1) := by decide +kernel
theorem dX9_arePairs_26 : decode cX9_arePairs 26 = .ok (.iload_n 3, 1) := by decide +kernel
theorem dX9_arePairs_27 : decode cX9_arePairs 27 = .ok (.iadd, 1) := by decide +kernel
theorem dX9_arePairs_28 : decode cX9_arePairs 28 = .ok (.iaload, 1) := by decide +kernel
theorem dX9_arePairs_29 : decode cX9_arePairs 29 = .ok (.i2l, 1) := by decide +kernel
theorem dX9_arePairs_30 : decode cX9_arePairs 30 = .ok (.lconst 0, 1) := by decide +kernel
theorem dX9_arePairs_31 : decode cX9_arePairs 31 = .ok (.iload_n 3, 1) := by decide +kernel
theorem dX9_arePairs_32 : decode cX9_arePairs 32 = .ok (.iconst 2, 1) := by decide +kernel
theorem dX9_arePairs_33 : decode cX9_arePairs 33 = .ok (.irem, 1) := by decide +kernel
theorem dX9_arePairs_34 : decode cX9_arePairs 34 = .ok (.ifCond .ne 9, 3) := by decide +kernel
theorem dX9_arePairs_37 : decode cX9_arePairs 37 = .ok (.ldc2_w 249, 3) := by decide +kernel
theorem dX9_arePairs_40 : decode cX9_arePairs 40 = .ok (.goto 4, 3) := by decide +kernel
theorem dX9_arePairs_43 : decode cX9_arePairs 43 = .ok (.lconst 1, 1) := by decide +kernel
theorem dX9_arePairs_44 : decode cX9_arePairs 44 = .ok (.invokestatic 114, 3) := by decide +kernel
theorem dX9_arePairs_47 : decode cX9_arePairs 47 = .ok (.ifCond .eq 7, 3) := by decide +kernel
theorem dX9_arePairs_50 : decode cX9_arePairs 50 = .ok (.iconst 1, 1) := by decide +kernel
theorem dX9_arePairs_51 : decode cX9_arePairs 51 = .ok (.goto 4, 3) := by decide +kernel
theorem dX9_arePairs_54 : decode cX9_arePairs 54 = .ok (.iconst 0, 1) := by decide +kernel
theorem dX9_arePairs_55 : decode cX9_arePairs 55 = .ok (.istore_n 2, 1) := by decide +kernel
theorem dX9_arePairs_56 : decode cX9_arePairs 56 = .ok (.iinc 3 1, 3) := by decide +kernel
theorem dX9_arePairs_59 : decode cX9_arePairs 59 = .ok (.goto (-55), 3) := by decide +kernel
theorem dX9_arePairs_62 : decode cX9_arePairs 62 = .ok (.iload_n 2, 1) := by decide +kernel
theorem dX9_arePairs_63 : decode cX9_arePairs 63 = .ok (.ireturn, 1) := by decide +kernel
theorem dX9_tastesBy_0 : decode cX9_tastesBy 0 = .ok (.iload_n 1, 1) := by decide +kernel
theorem dX9_tastesBy_1 : decode cX9_tastesBy 1 = .ok (.invokestatic 123, 3) := by decide +kernel
theorem dX9_tastesBy_4 : decode cX9_tastesBy 4 = .ok (.ifCond .ne 5, 3) := by decide +kernel
theorem dX9_tastesBy_7 : decode cX9_tastesBy 7 = .ok (.iconst (-1), 1) := by decide +kernel
theorem dX9_tastesBy_8 : decode cX9_tastesBy 8 = .ok (.ireturn, 1) := by decide +kernel
theorem dX9_tastesBy_9 : decode cX9_tastesBy 9 = .ok (.aload_n 0, 1) := by decide +kernel
theorem dX9_tastesBy_10 : decode cX9_tastesBy 10 = .ok (.getfield 44, 3) := by decide +kernel
theorem dX9_tastesBy_13 : decode cX9_tastesBy 13 = .ok (.iload_n 1, 1) := by decide +kernel
theorem dX9_tastesBy_14 : decode cX9_tastesBy 14 = .ok (.iaload, 1) := by decide +kernel
theorem dX9_tastesBy_15 : decode cX9_tastesBy 15 = .ok (.ifCond .ge 9, 3) := by decide +kernel
theorem dX9_tastesBy_18 : decode cX9_tastesBy 18 = .ok (.aload_n 0, 1) := by decide +kernel
theorem dX9_tastesBy_19 : decode cX9_tastesBy 19 = .ok (.iconst 1, 1) := by decide +kernel
theorem dX9_tastesBy_20 : decode cX9_tastesBy 20 = .ok (.invokevirtual 127, 3) := by decide +kernel
theorem dX9_tastesBy_23 : decode cX9_tastesBy 23 = .ok (.ireturn, 1) := by decide +kernel
theorem dX9_tastesBy_24 : decode cX9_tastesBy 24 = .ok (.aload_n 0, 1) := by decide +kernel
theorem dX9_tastesBy_25 : decode cX9_tastesBy 25 = .ok (.getfield 44, 3) := by decide +kernel
theorem dX9_tastesBy_28 : decode cX9_tastesBy 28 = .ok (.iload_n 1, 1) := by decide +kernel
theorem dX9_tastesBy_29 : decode cX9_tastesBy 29 = .ok (.iaload, 1) := by decide +kernel
theorem dX9_tastesBy_30 : decode cX9_tastesBy 30 = .ok (.iconst 2, 1) := by decide +kernel
theorem dX9_tastesBy_31 : decode cX9_tastesBy 31 = .ok (.irem, 1) := by decide +kernel
theorem dX9_tastesBy_32 : decode cX9_tastesBy 32 = .ok (.ifCond .eq 9, 3) := by decide +kernel
theorem dX9_tastesBy_35 : decode cX9_tastesBy 35 = .ok (.aload_n 0, 1) := by decide +kernel
theorem dX9_tastesBy_36 : decode cX9_tastesBy 36 = .ok (.iconst 5, 1) := by decide +kernel
theorem dX9_tastesBy_37 : decode cX9_tastesBy 37 = .ok (.invokevirtual 127, 3) := by decide +kernel
theorem dX9_tastesBy_40 : decode cX9_tastesBy 40 = .ok (.ireturn, 1) := by decide +kernel
theorem dX9_tastesBy_41 : decode cX9_tastesBy 41 = .ok (.aload_n 0, 1) := by decide +kernel
theorem dX9_tastesBy_42 : decode cX9_tastesBy 42 = .ok (.iload_n 1, 1) := by decide +kernel
theorem dX9_tastesBy_43 : decode cX9_tastesBy 43 = .ok (.invokevirtual 295, 3) := by decide +kernel
theorem dX9_tastesBy_46 : decode cX9_tastesBy 46 = .ok (.ifCond .ne 9, 3) := by decide +kernel
theorem dX9_tastesBy_49 : decode cX9_tastesBy 49 = .ok (.aload_n 0, 1) := by decide +kernel
theorem dX9_tastesBy_50 : decode cX9_tastesBy 50 = .ok (.iconst 3, 1) := by decide +kernel
theorem dX9_tastesBy_51 : decode cX9_tastesBy 51 = .ok (.invokevirtual 127, 3) := by decide +kernel
theorem dX9_tastesBy_54 : decode cX9_tastesBy 54 = .ok (.ireturn, 1) := by decide +kernel
theorem dX9_tastesBy_55 : decode cX9_tastesBy 55 = .ok (.iconst 0, 1) := by decide +kernel
theorem dX9_tastesBy_56 : decode cX9_tastesBy 56 = .ok (.istore_n 3, 1) := by decide +kernel
theorem dX9_tastesBy_57 : decode cX9_tastesBy 57 = .ok (.iconst 1, 1) := by decide +kernel
theorem dX9_tastesBy_58 : decode cX9_tastesBy 58 = .ok (.istore 4, 2) := by decide +kernel
theorem dX9_tastesBy_60 : decode cX9_tastesBy 60 = .ok (.iload 4, 2) := by decide +kernel
theorem dX9_tastesBy_62 : decode cX9_tastesBy 62 = .ok (.bipush 9, 2) := by decide +kernel
theorem dX9_tastesBy_64 : decode cX9_tastesBy 64 = .ok (.if_icmp .ge 114, 3) := by decide +kernel
theorem dX9_tastesBy_67 : decode cX9_tastesBy 67 = .ok (.iconst 1, 1) := by decide +kernel
theorem dX9_tastesBy_68 : decode cX9_tastesBy 68 = .ok (.istore 5, 2) := by decide +kernel
theorem dX9_tastesBy_70 : decode cX9_tastesBy 70 = .ok (.iconst 0, 1) := by decide +kernel
theorem dX9_tastesBy_71 : decode cX9_tastesBy 71 = .ok (.istore 6, 2) := by decide +kernel
theorem dX9_tastesBy_73 : decode cX9_tastesBy 73 = .ok (.iload 6, 2) := by decide +kernel
theorem dX9_tastesBy_75 : decode cX9_tastesBy 75 = .ok (.aload_n 0, 1) := by decide +kernel
theorem dX9_tastesBy_76 : decode cX9_tastesBy 76 = .ok (.getfield 44, 3) := by decide +kernel
theorem dX9_tastesBy_79 : decode cX9_tastesBy 79 = .ok (.iload_n 1, 1) := by decide +kernel
theorem dX9_tastesBy_80 : decode cX9_tastesBy 80 = .ok (.iaload, 1) := by decide +kernel
theorem dX9_tastesBy_81 : decode cX9_tastesBy 81 = .ok (.if_icmp .ge 75, 3) := by decide +kernel
theorem dX9_tastesBy_84 : decode cX9_tastesBy 84 = .ok (.aload_n 0, 1) := by decide +kernel
theorem dX9_tastesBy_85 : decode cX9_tastesBy 85 = .ok (.getfield 47, 3) := by decide +kernel
theorem dX9_tastesBy_88 : decode cX9_tastesBy 88 = .ok (.bipush 40, 2) := by decide +kernel
theorem dX9_tastesBy_90 : decode cX9_tastesBy 90 = .ok (.iload_n 1, 1) := by decide +kernel
theorem dX9_tastesBy_91 : decode cX9_tastesBy 91 = .ok (.imul, 1) := by decide +kernel
theorem dX9_tastesBy_92 : decode cX9_tastesBy 92 = .ok (.iload 6, 2) := by decide +kernel
theorem dX9_tastesBy_94 : decode cX9_tastesBy 94 = .ok (.iadd, 1) := by decide +kernel
theorem dX9_tastesBy_95 : decode cX9_tastesBy 95 = .ok (.iaload, 1) := by decide +kernel
theorem dX9_tastesBy_96 : decode cX9_tastesBy 96 = .ok (.iload 4, 2) := by decide +kernel
theorem dX9_tastesBy_98 : decode cX9_tastesBy 98 = .ok (.iload_n 2, 1) := by decide +kernel
theorem dX9_tastesBy_99 : decode cX9_tastesBy 99 = .ok (.iadd, 1) := by decide +kernel
theorem dX9_tastesBy_100 : decode cX9_tastesBy 100 = .ok (.if_icmp .lt 7, 3) := by decide +kernel
theorem dX9_tastesBy_103 : decode cX9_tastesBy 103 = .ok (.iconst 1, 1) := by decide +kernel
theorem dX9_tastesBy_104 : decode cX9_tastesBy 104 = .ok (.goto 4, 3) := by decide +kernel
theorem dX9_tastesBy_107 : decode cX9_tastesBy 107 = .ok (.iconst 0, 1) := by decide +kernel
theorem dX9_tastesBy_108 : decode cX9_tastesBy 108 = .ok (.istore 7, 2) := by decide +kernel
theorem dX9_tastesBy_110 : decode cX9_tastesBy 110 = .ok (.iload 5, 2) := by decide +kernel
theorem dX9_tastesBy_112 : decode cX9_tastesBy 112 = .ok (.ifCond .eq 35, 3) := by decide +kernel
theorem dX9_tastesBy_115 : decode cX9_tastesBy 115 = .ok (.iload 7, 2) := by decide +kernel
theorem dX9_tastesBy_117 : decode cX9_tastesBy 117 = .ok (.aload_n 0, 1) := by decide +kernel
theorem dX9_tastesBy_118 : decode cX9_tastesBy 118 = .ok (.getfield 47, 3) := by decide +kernel
theorem dX9_tastesBy_121 : decode cX9_tastesBy 121 = .ok (.bipush 40, 2) := by decide +kernel
theorem dX9_tastesBy_123 : decode cX9_tastesBy 123 = .ok (.iload_n 1, 1) := by decide +kernel
theorem dX9_tastesBy_124 : decode cX9_tastesBy 124 = .ok (.imul, 1) := by decide +kernel
theorem dX9_tastesBy_125 : decode cX9_tastesBy 125 = .ok (.iload 6, 2) := by decide +kernel
theorem dX9_tastesBy_127 : decode cX9_tastesBy 127 = .ok (.iadd, 1) := by decide +kernel
theorem dX9_tastesBy_128 : decode cX9_tastesBy 128 = .ok (.iconst 1, 1) := by decide +kernel
theorem dX9_tastesBy_129 : decode cX9_tastesBy 129 = .ok (.iadd, 1) := by decide +kernel
theorem dX9_tastesBy_130 : decode cX9_tastesBy 130 = .ok (.iaload, 1) := by decide +kernel
theorem dX9_tastesBy_131 : decode cX9_tastesBy 131 = .ok (.iconst 1, 1) := by decide +kernel
theorem dX9_tastesBy_132 : decode cX9_tastesBy 132 = .ok (.if_icmp .ne 7, 3) := by decide +kernel
theorem dX9_tastesBy_135 : decode cX9_tastesBy 135 = .ok (.iconst 1, 1) := by decide +kernel
theorem dX9_tastesBy_136 : decode cX9_tastesBy 136 = .ok (.goto 4, 3) := by decide +kernel
theorem dX9_tastesBy_139 : decode cX9_tastesBy 139 = .ok (.iconst 0, 1) := by decide +kernel
theorem dX9_tastesBy_140 : decode cX9_tastesBy 140 = .ok (.if_icmp .ne 7, 3) := by decide +kernel
theorem dX9_tastesBy_143 : decode cX9_tastesBy 143 = .ok (.iconst 1, 1) := by decide +kernel
theorem dX9_tastesBy_144 : decode cX9_tastesBy 144 = .ok (.goto 4, 3) := by decide +kernel
theorem dX9_tastesBy_147 : decode cX9_tastesBy 147 = .ok (.iconst 0, 1) := by decide +kernel
theorem dX9_tastesBy_148 : decode cX9_tastesBy 148 = .ok (.istore 5, 2) := by decide +kernel
theorem dX9_tastesBy_150 : decode cX9_tastesBy 150 = .ok (.iinc 6 2, 3) := by decide +kernel
theorem dX9_tastesBy_153 : decode cX9_tastesBy 153 = .ok (.goto (-80), 3) := by decide +kernel
theorem dX9_tastesBy_156 : decode cX9_tastesBy 156 = .ok (.iload_n 3, 1) := by decide +kernel
theorem dX9_tastesBy_157 : decode cX9_tastesBy 157 = .ok (.iload 5, 2) := by decide +kernel
theorem dX9_tastesBy_159 : decode cX9_tastesBy 159 = .ok (.ifCond .eq 10, 3) := by decide +kernel
theorem dX9_tastesBy_162 : decode cX9_tastesBy 162 = .ok (.iconst 1, 1) := by decide +kernel
theorem dX9_tastesBy_163 : decode cX9_tastesBy 163 = .ok (.iload 4, 2) := by decide +kernel
theorem dX9_tastesBy_165 : decode cX9_tastesBy 165 = .ok (.ishl, 1) := by decide +kernel
theorem dX9_tastesBy_166 : decode cX9_tastesBy 166 = .ok (.goto 4, 3) := by decide +kernel
theorem dX9_tastesBy_169 : decode cX9_tastesBy 169 = .ok (.iconst 0, 1) := by decide +kernel
theorem dX9_tastesBy_170 : decode cX9_tastesBy 170 = .ok (.ior, 1) := by decide +kernel
theorem dX9_tastesBy_171 : decode cX9_tastesBy 171 = .ok (.istore_n 3, 1) := by decide +kernel
theorem dX9_tastesBy_172 : decode cX9_tastesBy 172 = .ok (.iinc 4 1, 3) := by decide +kernel
theorem dX9_tastesBy_175 : decode cX9_tastesBy 175 = .ok (.goto (-115), 3) := by decide +kernel
theorem dX9_tastesBy_178 : decode cX9_tastesBy 178 = .ok (.iload_n 3, 1) := by decide +kernel
theorem dX9_tastesBy_179 : decode cX9_tastesBy 179 = .ok (.ireturn, 1) := by decide +kernel
theorem dX9_tastes_0 : decode cX9_tastes 0 = .ok (.aload_n 0, 1) := by decide +kernel
theorem dX9_tastes_1 : decode cX9_tastes 1 = .ok (.iload_n 1, 1) := by decide +kernel
theorem dX9_tastes_2 : decode cX9_tastes 2 = .ok (.iconst 0, 1) := by decide +kernel
theorem dX9_tastes_3 : decode cX9_tastes 3 = .ok (.invokevirtual 298, 3) := by decide +kernel
theorem dX9_tastes_6 : decode cX9_tastes 6 = .ok (.ireturn, 1) := by decide +kernel
theorem dX9_sour_0 : decode cX9_sour 0 = .ok (.aload_n 0, 1) := by decide +kernel
theorem dX9_sour_1 : decode cX9_sour 1 = .ok (.iload_n 1, 1) := by decide +kernel
theorem dX9_sour_2 : decode cX9_sour 2 = .ok (.iconst 1, 1) := by decide +kernel
theorem dX9_sour_3 : decode cX9_sour 3 = .ok (.invokevirtual 298, 3) := by decide +kernel
theorem dX9_sour_6 : decode cX9_sour 6 = .ok (.ireturn, 1) := by decide +kernel
theorem dX9_touchAt_0 : decode cX9_touchAt 0 = .ok (.iload_n 1, 1) := by decide +kernel
theorem dX9_touchAt_1 : decode cX9_touchAt 1 = .ok (.istore_n 2, 1) := by decide +kernel
theorem dX9_touchAt_2 : decode cX9_touchAt 2 = .ok (.aload_n 0, 1) := by decide +kernel
theorem dX9_touchAt_3 : decode cX9_touchAt 3 = .ok (.invokevirtual 192, 3) := by decide +kernel
theorem dX9_touchAt_6 : decode cX9_touchAt 6 = .ok (.invokestatic 195, 3) := by decide +kernel
theorem dX9_touchAt_9 : decode cX9_touchAt 9 = .ok (.iconst 1, 1) := by decide +kernel
theorem dX9_touchAt_10 : decode cX9_touchAt 10 = .ok (.iadd, 1) := by decide +kernel
theorem dX9_touchAt_11 : decode cX9_touchAt 11 = .ok (.istore_n 3, 1) := by decide +kernel
theorem dX9_touchAt_12 : decode cX9_touchAt 12 = .ok (.iconst 0, 1) := by decide +kernel
theorem dX9_touchAt_13 : decode cX9_touchAt 13 = .ok (.istore 4, 2) := by decide +kernel
theorem dX9_touchAt_15 : decode cX9_touchAt 15 = .ok (.aload_n 0, 1) := by decide +kernel
theorem dX9_touchAt_16 : decode cX9_touchAt 16 = .ok (.iconst 0, 1) := by decide +kernel
theorem dX9_touchAt_17 : decode cX9_touchAt 17 = .ok (.invokevirtual 172, 3) := by decide +kernel
theorem dX9_touchAt_20 : decode cX9_touchAt 20 = .ok (.ifCond .eq 7, 3) := by decide +kernel
theorem dX9_touchAt_23 : decode cX9_touchAt 23 = .ok (.iconst 0, 1) := by decide +kernel
theorem dX9_touchAt_24 : decode cX9_touchAt 24 = .ok (.goto 17, 3) := by decide +kernel
theorem dX9_touchAt_27 : decode cX9_touchAt 27 = .ok (.aload_n 0, 1) := by decide +kernel
theorem dX9_touchAt_28 : decode cX9_touchAt 28 = .ok (.iconst 0, 1) := by decide +kernel
theorem dX9_touchAt_29 : decode cX9_touchAt 29 = .ok (.iconst 0, 1) := by decide +kernel
theorem dX9_touchAt_30 : decode cX9_touchAt 30 = .ok (.invokevirtual 221, 3) := by decide +kernel
theorem dX9_touchAt_33 : decode cX9_touchAt 33 = .ok (.ifCond .eq 7, 3) := by decide +kernel
theorem dX9_touchAt_36 : decode cX9_touchAt 36 = .ok (.iconst 2, 1) := by decide +kernel
theorem dX9_touchAt_37 : decode cX9_touchAt 37 = .ok (.goto 4, 3) := by decide +kernel
theorem dX9_touchAt_40 : decode cX9_touchAt 40 = .ok (.iconst 1, 1) := by decide +kernel
theorem dX9_touchAt_41 : decode cX9_touchAt 41 = .ok (.istore 5, 2) := by decide +kernel
theorem dX9_touchAt_43 : decode cX9_touchAt 43 = .ok (.iload_n 2, 1) := by decide +kernel
theorem dX9_touchAt_44 : decode cX9_touchAt 44 = .ok (.iload 5, 2) := by decide +kernel
theorem dX9_touchAt_46 : decode cX9_touchAt 46 = .ok (.iload_n 3, 1) := by decide +kernel
theorem dX9_touchAt_47 : decode cX9_touchAt 47 = .ok (.imul, 1) := by decide +kernel
theorem dX9_touchAt_48 : decode cX9_touchAt 48 = .ok (.if_icmp .lt 46, 3) := by decide +kernel
theorem dX9_touchAt_51 : decode cX9_touchAt 51 = .ok (.iload_n 2, 1) := by decide +kernel
theorem dX9_touchAt_52 : decode cX9_touchAt 52 = .ok (.iload 5, 2) := by decide +kernel
theorem dX9_touchAt_54 : decode cX9_touchAt 54 = .ok (.iload_n 3, 1) := by decide +kernel
theorem dX9_touchAt_55 : decode cX9_touchAt 55 = .ok (.imul, 1) := by decide +kernel
theorem dX9_touchAt_56 : decode cX9_touchAt 56 = .ok (.isub, 1) := by decide +kernel
theorem dX9_touchAt_57 : decode cX9_touchAt 57 = .ok (.istore_n 2, 1) := by decide +kernel
theorem dX9_touchAt_58 : decode cX9_touchAt 58 = .ok (.iinc 4 1, 3) := by decide +kernel
theorem dX9_touchAt_61 : decode cX9_touchAt 61 = .ok (.aload_n 0, 1) := by decide +kernel
theorem dX9_touchAt_62 : decode cX9_touchAt 62 = .ok (.iload 4, 2) := by decide +kernel
theorem dX9_touchAt_64 : decode cX9_touchAt 64 = .ok (.invokevirtual 172, 3) := by decide +kernel
theorem dX9_touchAt_67 : decode cX9_touchAt 67 = .ok (.ifCond .eq 7, 3) := by decide +kernel
theorem dX9_touchAt_70 : decode cX9_touchAt 70 = .ok (.iconst 0, 1) := by decide +kernel
theorem dX9_touchAt_71 : decode cX9_touchAt 71 = .ok (.goto 18, 3) := by decide +kernel
theorem dX9_touchAt_74 : decode cX9_touchAt 74 = .ok (.aload_n 0, 1) := by decide +kernel
theorem dX9_touchAt_75 : decode cX9_touchAt 75 = .ok (.iload 4, 2) := by decide +kernel
theorem dX9_touchAt_77 : decode cX9_touchAt 77 = .ok (.iconst 0, 1) := by decide +kernel
theorem dX9_touchAt_78 : decode cX9_touchAt 78 = .ok (.invokevirtual 221, 3) := by decide +kernel
theorem dX9_touchAt_81 : decode cX9_touchAt 81 = .ok (.ifCond .eq 7, 3) := by decide +kernel
theorem dX9_touchAt_84 : decode cX9_touchAt 84 = .ok (.iconst 2, 1) := by decide +kernel
theorem dX9_touchAt_85 : decode cX9_touchAt 85 = .ok (.goto 4, 3) := by decide +kernel
theorem dX9_touchAt_88 : decode cX9_touchAt 88 = .ok (.iconst 1, 1) := by decide +kernel
theorem dX9_touchAt_89 : decode cX9_touchAt 89 = .ok (.istore 5, 2) := by decide +kernel
theorem dX9_touchAt_91 : decode cX9_touchAt 91 = .ok (.goto (-48), 3) := by decide +kernel
theorem dX9_touchAt_94 : decode cX9_touchAt 94 = .ok (.iload 5, 2) := by decide +kernel
theorem dX9_touchAt_96 : decode cX9_touchAt 96 = .ok (.iconst 1, 1) := by decide +kernel
theorem dX9_touchAt_97 : decode cX9_touchAt 97 = .ok (.if_icmp .ne 7, 3) := by decide +kernel
theorem dX9_touchAt_100 : decode cX9_touchAt 100 = .ok (.iconst 1, 1) := by decide +kernel
theorem dX9_touchAt_101 : decode cX9_touchAt 101 = .ok (.goto 6, 3) := by decide +kernel
theorem dX9_touchAt_104 : decode cX9_touchAt 104 = .ok (.iload_n 2, 1) := by decide +kernel
theorem dX9_touchAt_105 : decode cX9_touchAt 105 = .ok (.iload_n 3, 1) := by decide +kernel
theorem dX9_touchAt_106 : decode cX9_touchAt 106 = .ok (.idiv, 1) := by decide +kernel
theorem dX9_touchAt_107 : decode cX9_touchAt 107 = .ok (.istore 6, 2) := by decide +kernel
theorem dX9_touchAt_109 : decode cX9_touchAt 109 = .ok (.iload_n 2, 1) := by decide +kernel
theorem dX9_touchAt_110 : decode cX9_touchAt 110 = .ok (.iload_n 3, 1) := by decide +kernel
theorem dX9_touchAt_111 : decode cX9_touchAt 111 = .ok (.irem, 1) := by decide +kernel
theorem dX9_touchAt_112 : decode cX9_touchAt 112 = .ok (.istore 7, 2) := by decide +kernel
theorem dX9_touchAt_114 : decode cX9_touchAt 114 = .ok (.iconst 0, 1) := by decide +kernel
theorem dX9_touchAt_115 : decode cX9_touchAt 115 = .ok (.istore 8, 2) := by decide +kernel
theorem dX9_touchAt_117 : decode cX9_touchAt 117 = .ok (.aload_n 0, 1) := by decide +kernel
theorem dX9_touchAt_118 : decode cX9_touchAt 118 = .ok (.invokevirtual 192, 3) := by decide +kernel
theorem dX9_touchAt_121 : decode cX9_touchAt 121 = .ok (.istore 9, 2) := by decide +kernel
theorem dX9_touchAt_123 : decode cX9_touchAt 123 = .ok (.iload 8, 2) := by decide +kernel
theorem dX9_touchAt_125 : decode cX9_touchAt 125 = .ok (.aload_n 0, 1) := by decide +kernel
theorem dX9_touchAt_126 : decode cX9_touchAt 126 = .ok (.getfield 120, 3) := by decide +kernel
theorem dX9_touchAt_129 : decode cX9_touchAt 129 = .ok (.if_icmp .ge 44, 3) := by decide +kernel
theorem dX9_touchAt_132 : decode cX9_touchAt 132 = .ok (.iload 9, 2) := by decide +kernel
theorem dX9_touchAt_134 : decode cX9_touchAt 134 = .ok (.iload 8, 2) := by decide +kernel
theorem dX9_touchAt_136 : decode cX9_touchAt 136 = .ok (.invokestatic 238, 3) := by decide +kernel
theorem dX9_touchAt_139 : decode cX9_touchAt 139 = .ok (.ifCond .eq 8, 3) := by decide +kernel
theorem dX9_touchAt_142 : decode cX9_touchAt 142 = .ok (.iload 7, 2) := by decide +kernel
theorem dX9_touchAt_144 : decode cX9_touchAt 144 = .ok (.ifCond .eq 29, 3) := by decide +kernel
theorem dX9_touchAt_147 : decode cX9_touchAt 147 = .ok (.iload 7, 2) := by decide +kernel
theorem dX9_touchAt_149 : decode cX9_touchAt 149 = .ok (.iload 9, 2) := by decide +kernel
theorem dX9_touchAt_151 : decode cX9_touchAt 151 = .ok (.iload 8, 2) := by decide +kernel
theorem dX9_touchAt_153 : decode cX9_touchAt 153 = .ok (.invokestatic 238, 3) := by decide +kernel
theorem dX9_touchAt_156 : decode cX9_touchAt 156 = .ok (.ifCond .eq 7, 3) := by decide +kernel
theorem dX9_touchAt_159 : decode cX9_touchAt 159 = .ok (.iconst 1, 1) := by decide +kernel
theorem dX9_touchAt_160 : decode cX9_touchAt 160 = .ok (.goto 4, 3) := by decide +kernel
theorem dX9_touchAt_163 : decode cX9_touchAt 163 = .ok (.iconst 0, 1) := by decide +kernel
theorem dX9_touchAt_164 : decode cX9_touchAt 164 = .ok (.isub, 1) := by decide +kernel
theorem dX9_touchAt_165 : decode cX9_touchAt 165 = .ok (.istore 7, 2) := by decide +kernel
theorem dX9_touchAt_167 : decode cX9_touchAt 167 = .ok (.iinc 8 1, 3) := by decide +kernel
theorem dX9_touchAt_170 : decode cX9_touchAt 170 = .ok (.goto (-47), 3) := by decide +kernel
theorem dX9_touchAt_173 : decode cX9_touchAt 173 = .ok (.aload_n 0, 1) := by decide +kernel
theorem dX9_touchAt_174 : decode cX9_touchAt 174 = .ok (.iload 4, 2) := by decide +kernel
theorem dX9_touchAt_176 : decode cX9_touchAt 176 = .ok (.iload 6, 2) := by decide +kernel
theorem dX9_touchAt_178 : decode cX9_touchAt 178 = .ok (.iload 8, 2) := by decide +kernel
theorem dX9_touchAt_180 : decode cX9_touchAt 180 = .ok (.aload_n 0, 1) := by decide +kernel
theorem dX9_touchAt_181 : decode cX9_touchAt 181 = .ok (.getfield 120, 3) := by decide +kernel
theorem dX9_touchAt_184 : decode cX9_touchAt 184 = .ok (.if_icmp .ne 8, 3) := by decide +kernel
theorem dX9_touchAt_187 : decode cX9_touchAt 187 = .ok (.bipush 9, 2) := by decide +kernel
theorem dX9_touchAt_189 : decode cX9_touchAt 189 = .ok (.goto 5, 3) := by decide +kernel
theorem dX9_touchAt_192 : decode cX9_touchAt 192 = .ok (.iload 8, 2) := by decide +kernel
theorem dX9_touchAt_194 : decode cX9_touchAt 194 = .ok (.invokevirtual 301, 3) := by decide +kernel
theorem dX9_touchAt_197 : decode cX9_touchAt 197 = .ok (.istore 10, 2) := by decide +kernel
theorem dX9_touchAt_199 : decode cX9_touchAt 199 = .ok (.return_, 1) := by decide +kernel
theorem dX9_lots_0 : decode cX9_lots 0 = .ok (.iload_n 1, 1) := by decide +kernel
theorem dX9_lots_1 : decode cX9_lots 1 = .ok (.i2l, 1) := by decide +kernel
theorem dX9_lots_2 : decode cX9_lots 2 = .ok (.lconst 1, 1) := by decide +kernel
theorem dX9_lots_3 : decode cX9_lots 3 = .ok (.ldc2_w 304, 3) := by decide +kernel
theorem dX9_lots_6 : decode cX9_lots 6 = .ok (.invokestatic 114, 3) := by decide +kernel
theorem dX9_lots_9 : decode cX9_lots 9 = .ok (.ifCond .eq 15, 3) := by decide +kernel
theorem dX9_lots_12 : decode cX9_lots 12 = .ok (.iload_n 2, 1) := by decide +kernel
theorem dX9_lots_13 : decode cX9_lots 13 = .ok (.i2l, 1) := by decide +kernel
theorem dX9_lots_14 : decode cX9_lots 14 = .ok (.lconst 1, 1) := by decide +kernel
theorem dX9_lots_15 : decode cX9_lots 15 = .ok (.ldc2_w 306, 3) := by decide +kernel
theorem dX9_lots_18 : decode cX9_lots 18 = .ok (.invokestatic 114, 3) := by decide +kernel
theorem dX9_lots_21 : decode cX9_lots 21 = .ok (.ifCond .ne 5, 3) := by decide +kernel
theorem dX9_lots_24 : decode cX9_lots 24 = .ok (.iconst (-1), 1) := by decide +kernel
theorem dX9_lots_25 : decode cX9_lots 25 = .ok (.ireturn, 1) := by decide +kernel
theorem dX9_lots_26 : decode cX9_lots 26 = .ok (.aload_n 0, 1) := by decide +kernel
theorem dX9_lots_27 : decode cX9_lots 27 = .ok (.getfield 120, 3) := by decide +kernel
theorem dX9_lots_30 : decode cX9_lots 30 = .ok (.ifCond .ne 6, 3) := by decide +kernel
theorem dX9_lots_33 : decode cX9_lots 33 = .ok (.bipush (-4), 2) := by decide +kernel
theorem dX9_lots_35 : decode cX9_lots 35 = .ok (.ireturn, 1) := by decide +kernel
theorem dX9_lots_36 : decode cX9_lots 36 = .ok (.aload_n 0, 1) := by decide +kernel
theorem dX9_lots_37 : decode cX9_lots 37 = .ok (.getfield 169, 3) := by decide +kernel
theorem dX9_lots_40 : decode cX9_lots 40 = .ok (.iload_n 1, 1) := by decide +kernel
theorem dX9_lots_41 : decode cX9_lots 41 = .ok (.iadd, 1) := by decide +kernel
theorem dX9_lots_42 : decode cX9_lots 42 = .ok (.bipush 60, 2) := by decide +kernel
theorem dX9_lots_44 : decode cX9_lots 44 = .ok (.if_icmp .le 6, 3) := by decide +kernel
theorem dX9_lots_47 : decode cX9_lots 47 = .ok (.bipush (-2), 2) := by decide +kernel
theorem dX9_lots_49 : decode cX9_lots 49 = .ok (.ireturn, 1) := by decide +kernel
theorem dX9_lots_50 : decode cX9_lots 50 = .ok (.iload_n 2, 1) := by decide +kernel
theorem dX9_lots_51 : decode cX9_lots 51 = .ok (.i2l, 1) := by decide +kernel
theorem dX9_lots_52 : decode cX9_lots 52 = .ok (.lstore_n 3, 1) := by decide +kernel
theorem dX9_lots_53 : decode cX9_lots 53 = .ok (.iconst 0, 1) := by decide +kernel
theorem dX9_lots_54 : decode cX9_lots 54 = .ok (.istore 5, 2) := by decide +kernel
theorem dX9_lots_56 : decode cX9_lots 56 = .ok (.iload 5, 2) := by decide +kernel
theorem dX9_lots_58 : decode cX9_lots 58 = .ok (.iload_n 1, 1) := by decide +kernel
theorem dX9_lots_59 : decode cX9_lots 59 = .ok (.if_icmp .ge 38, 3) := by decide +kernel
theorem dX9_lots_62 : decode cX9_lots 62 = .ok (.aload_n 0, 1) := by decide +kernel
theorem dX9_lots_63 : decode cX9_lots 63 = .ok (.invokevirtual 270, 3) := by decide +kernel
theorem dX9_lots_66 : decode cX9_lots 66 = .ok (.ifCond .le 31, 3) := by decide +kernel
theorem dX9_lots_69 : decode cX9_lots 69 = .ok (.lload_n 3, 1) := by decide +kernel
theorem dX9_lots_70 : decode cX9_lots 70 = .ok (.ldc2_w 308, 3) := by decide +kernel
theorem dX9_lots_73 : decode cX9_lots 73 = .ok (.lmul, 1) := by decide +kernel
theorem dX9_lots_74 : decode cX9_lots 74 = .ok (.ldc2_w 310, 3) := by decide +kernel
theorem dX9_lots_77 : decode cX9_lots 77 = .ok (.lrem, 1) := by decide +kernel
theorem dX9_lots_78 : decode cX9_lots 78 = .ok (.lstore_n 3, 1) := by decide +kernel
theorem dX9_lots_79 : decode cX9_lots 79 = .ok (.aload_n 0, 1) := by decide +kernel
theorem dX9_lots_80 : decode cX9_lots 80 = .ok (.lload_n 3, 1) := by decide +kernel
theorem dX9_lots_81 : decode cX9_lots 81 = .ok (.aload_n 0, 1) := by decide +kernel
theorem dX9_lots_82 : decode cX9_lots 82 = .ok (.invokevirtual 270, 3) := by decide +kernel
theorem dX9_lots_85 : decode cX9_lots 85 = .ok (.i2l, 1) := by decide +kernel
theorem dX9_lots_86 : decode cX9_lots 86 = .ok (.lrem, 1) := by decide +kernel
theorem dX9_lots_87 : decode cX9_lots 87 = .ok (.l2i, 1) := by decide +kernel
theorem dX9_lots_88 : decode cX9_lots 88 = .ok (.invokevirtual 312, 3) := by decide +kernel
theorem dX9_lots_91 : decode cX9_lots 91 = .ok (.iinc 5 1, 3) := by decide +kernel
theorem dX9_lots_94 : decode cX9_lots 94 = .ok (.goto (-38), 3) := by decide +kernel
theorem dX9_lots_97 : decode cX9_lots 97 = .ok (.iload 5, 2) := by decide +kernel
theorem dX9_lots_99 : decode cX9_lots 99 = .ok (.ireturn, 1) := by decide +kernel
theorem dX9_asked_0 : decode cX9_asked 0 = .ok (.aload_n 0, 1) := by decide +kernel
theorem dX9_asked_1 : decode cX9_asked 1 = .ok (.getfield 131, 3) := by decide +kernel
theorem dX9_asked_4 : decode cX9_asked 4 = .ok (.ireturn, 1) := by decide +kernel
theorem dX9_upper_0 : decode cX9_upper 0 = .ok (.aload_n 0, 1) := by decide +kernel
theorem dX9_upper_1 : decode cX9_upper 1 = .ok (.getfield 276, 3) := by decide +kernel
theorem dX9_upper_4 : decode cX9_upper 4 = .ok (.lreturn, 1) := by decide +kernel
theorem dX9_lower_0 : decode cX9_lower 0 = .ok (.aload_n 0, 1) := by decide +kernel
theorem dX9_lower_1 : decode cX9_lower 1 = .ok (.getfield 37, 3) := by decide +kernel
theorem dX9_lower_4 : decode cX9_lower 4 = .ok (.lreturn, 1) := by decide +kernel
theorem dX9_gloved_0 : decode cX9_gloved 0 = .ok (.iconst 0, 1) := by decide +kernel
theorem dX9_gloved_1 : decode cX9_gloved 1 = .ok (.istore_n 1, 1) := by decide +kernel
theorem dX9_gloved_2 : decode cX9_gloved 2 = .ok (.iconst 0, 1) := by decide +kernel
theorem dX9_gloved_3 : decode cX9_gloved 3 = .ok (.istore_n 2, 1) := by decide +kernel
theorem dX9_gloved_4 : decode cX9_gloved 4 = .ok (.iload_n 2, 1) := by decide +kernel
theorem dX9_gloved_5 : decode cX9_gloved 5 = .ok (.aload_n 0, 1) := by decide +kernel
theorem dX9_gloved_6 : decode cX9_gloved 6 = .ok (.getfield 120, 3) := by decide +kernel
theorem dX9_gloved_9 : decode cX9_gloved 9 = .ok (.if_icmp .ge 26, 3) := by decide +kernel
theorem dX9_gloved_12 : decode cX9_gloved 12 = .ok (.iload_n 1, 1) := by decide +kernel
theorem dX9_gloved_13 : decode cX9_gloved 13 = .ok (.aload_n 0, 1) := by decide +kernel
theorem dX9_gloved_14 : decode cX9_gloved 14 = .ok (.iload_n 2, 1) := by decide +kernel
theorem dX9_gloved_15 : decode cX9_gloved 15 = .ok (.iconst 1, 1) := by decide +kernel
theorem dX9_gloved_16 : decode cX9_gloved 16 = .ok (.invokevirtual 206, 3) := by decide +kernel
theorem dX9_gloved_19 : decode cX9_gloved 19 = .ok (.ifCond .eq 7, 3) := by decide +kernel
theorem dX9_gloved_22 : decode cX9_gloved 22 = .ok (.iconst 1, 1) := by decide +kernel
theorem dX9_gloved_23 : decode cX9_gloved 23 = .ok (.goto 4, 3) := by decide +kernel
theorem dX9_gloved_26 : decode cX9_gloved 26 = .ok (.iconst 0, 1) := by decide +kernel
theorem dX9_gloved_27 : decode cX9_gloved 27 = .ok (.iadd, 1) := by decide +kernel
theorem dX9_gloved_28 : decode cX9_gloved 28 = .ok (.istore_n 1, 1) := by decide +kernel
theorem dX9_gloved_29 : decode cX9_gloved 29 = .ok (.iinc 2 1, 3) := by decide +kernel
theorem dX9_gloved_32 : decode cX9_gloved 32 = .ok (.goto (-28), 3) := by decide +kernel
theorem dX9_gloved_35 : decode cX9_gloved 35 = .ok (.iload_n 1, 1) := by decide +kernel
theorem dX9_gloved_36 : decode cX9_gloved 36 = .ok (.ireturn, 1) := by decide +kernel
theorem dX9_there_0 : decode cX9_there 0 = .ok (.iconst 0, 1) := by decide +kernel
theorem dX9_there_1 : decode cX9_there 1 = .ok (.istore_n 1, 1) := by decide +kernel
theorem dX9_there_2 : decode cX9_there 2 = .ok (.iconst 0, 1) := by decide +kernel
theorem dX9_there_3 : decode cX9_there 3 = .ok (.istore_n 2, 1) := by decide +kernel
theorem dX9_there_4 : decode cX9_there 4 = .ok (.iload_n 2, 1) := by decide +kernel
theorem dX9_there_5 : decode cX9_there 5 = .ok (.aload_n 0, 1) := by decide +kernel
theorem dX9_there_6 : decode cX9_there 6 = .ok (.arraylength, 1) := by decide +kernel
theorem dX9_there_7 : decode cX9_there 7 = .ok (.if_icmp .ge 23, 3) := by decide +kernel
theorem dX9_there_10 : decode cX9_there 10 = .ok (.iload_n 1, 1) := by decide +kernel
theorem dX9_there_11 : decode cX9_there 11 = .ok (.aload_n 0, 1) := by decide +kernel
theorem dX9_there_12 : decode cX9_there 12 = .ok (.iload_n 2, 1) := by decide +kernel
theorem dX9_there_13 : decode cX9_there 13 = .ok (.iaload, 1) := by decide +kernel
theorem dX9_there_14 : decode cX9_there 14 = .ok (.ifCond .ge 7, 3) := by decide +kernel
theorem dX9_there_17 : decode cX9_there 17 = .ok (.iconst 0, 1) := by decide +kernel
theorem dX9_there_18 : decode cX9_there 18 = .ok (.goto 4, 3) := by decide +kernel
theorem dX9_there_21 : decode cX9_there 21 = .ok (.iconst 1, 1) := by decide +kernel
theorem dX9_there_22 : decode cX9_there 22 = .ok (.iadd, 1) := by decide +kernel
theorem dX9_there_23 : decode cX9_there 23 = .ok (.istore_n 1, 1) := by decide +kernel
theorem dX9_there_24 : decode cX9_there 24 = .ok (.iinc 2 1, 3) := by decide +kernel
theorem dX9_there_27 : decode cX9_there 27 = .ok (.goto (-23), 3) := by decide +kernel
theorem dX9_there_30 : decode cX9_there 30 = .ok (.iload_n 1, 1) := by decide +kernel
theorem dX9_there_31 : decode cX9_there 31 = .ok (.ireturn, 1) := by decide +kernel
theorem dX9_count_0 : decode cX9_count 0 = .ok (.iload_n 1, 1) := by decide +kernel
theorem dX9_count_1 : decode cX9_count 1 = .ok (.tableswitch 108 0 8 #[51, 56, 61, 66, 74, 79, 84, 92, 100], 51) := by decide +kernel
theorem dX9_count_52 : decode cX9_count 52 = .ok (.aload_n 0, 1) := by decide +kernel
theorem dX9_count_53 : decode cX9_count 53 = .ok (.getfield 120, 3) := by decide +kernel
theorem dX9_count_56 : decode cX9_count 56 = .ok (.ireturn, 1) := by decide +kernel
theorem dX9_count_57 : decode cX9_count 57 = .ok (.aload_n 0, 1) := by decide +kernel
theorem dX9_count_58 : decode cX9_count 58 = .ok (.getfield 169, 3) := by decide +kernel
theorem dX9_count_61 : decode cX9_count 61 = .ok (.ireturn, 1) := by decide +kernel
theorem dX9_count_62 : decode cX9_count 62 = .ok (.aload_n 0, 1) := by decide +kernel
theorem dX9_count_63 : decode cX9_count 63 = .ok (.getfield 166, 3) := by decide +kernel
theorem dX9_count_66 : decode cX9_count 66 = .ok (.ireturn, 1) := by decide +kernel
theorem dX9_count_67 : decode cX9_count 67 = .ok (.aload_n 0, 1) := by decide +kernel
theorem dX9_count_68 : decode cX9_count 68 = .ok (.invokevirtual 192, 3) := by decide +kernel
theorem dX9_count_71 : decode cX9_count 71 = .ok (.invokestatic 195, 3) := by decide +kernel
theorem dX9_count_74 : decode cX9_count 74 = .ok (.ireturn, 1) := by decide +kernel
theorem dX9_count_75 : decode cX9_count 75 = .ok (.aload_n 0, 1) := by decide +kernel
theorem dX9_count_76 : decode cX9_count 76 = .ok (.invokevirtual 188, 3) := by decide +kernel
theorem dX9_count_79 : decode cX9_count 79 = .ok (.ireturn, 1) := by decide +kernel
theorem dX9_count_80 : decode cX9_count 80 = .ok (.aload_n 0, 1) := by decide +kernel
theorem dX9_count_81 : decode cX9_count 81 = .ok (.invokevirtual 315, 3) := by decide +kernel
theorem dX9_count_84 : decode cX9_count 84 = .ok (.ireturn, 1) := by decide +kernel
theorem dX9_count_85 : decode cX9_count 85 = .ok (.aload_n 0, 1) := by decide +kernel
theorem dX9_count_86 : decode cX9_count 86 = .ok (.getfield 44, 3) := by decide +kernel
theorem dX9_count_89 : decode cX9_count 89 = .ok (.invokestatic 318, 3) := by decide +kernel
theorem dX9_count_92 : decode cX9_count 92 = .ok (.ireturn, 1) := by decide +kernel
theorem dX9_count_93 : decode cX9_count 93 = .ok (.aload_n 0, 1) := by decide +kernel
theorem dX9_count_94 : decode cX9_count 94 = .ok (.getfield 50, 3) := by decide +kernel
theorem dX9_count_97 : decode cX9_count 97 = .ok (.invokestatic 318, 3) := by decide +kernel
theorem dX9_count_100 : decode cX9_count 100 = .ok (.ireturn, 1) := by decide +kernel
theorem dX9_count_101 : decode cX9_count 101 = .ok (.aload_n 0, 1) := by decide +kernel
theorem dX9_count_102 : decode cX9_count 102 = .ok (.getfield 56, 3) := by decide +kernel
theorem dX9_count_105 : decode cX9_count 105 = .ok (.invokestatic 318, 3) := by decide +kernel
theorem dX9_count_108 : decode cX9_count 108 = .ok (.ireturn, 1) := by decide +kernel
theorem dX9_count_109 : decode cX9_count 109 = .ok (.iconst (-1), 1) := by decide +kernel
theorem dX9_count_110 : decode cX9_count 110 = .ok (.ireturn, 1) := by decide +kernel
theorem dX9_finding_0 : decode cX9_finding 0 = .ok (.aload_n 0, 1) := by decide +kernel
theorem dX9_finding_1 : decode cX9_finding 1 = .ok (.getfield 108, 3) := by decide +kernel
theorem dX9_finding_4 : decode cX9_finding 4 = .ok (.ireturn, 1) := by decide +kernel
theorem dX9_findings_0 : decode cX9_findings 0 = .ok (.iload_n 1, 1) := by decide +kernel
theorem dX9_findings_1 : decode cX9_findings 1 = .ok (.i2l, 1) := by decide +kernel
theorem dX9_findings_2 : decode cX9_findings 2 = .ok (.lconst 1, 1) := by decide +kernel
theorem dX9_findings_3 : decode cX9_findings 3 = .ok (.ldc2_w 112, 3) := by decide +kernel
theorem dX9_findings_6 : decode cX9_findings 6 = .ok (.invokestatic 114, 3) := by decide +kernel
theorem dX9_findings_9 : decode cX9_findings 9 = .ok (.ifCond .eq 12, 3) := by decide +kernel
theorem dX9_findings_12 : decode cX9_findings 12 = .ok (.aload_n 0, 1) := by decide +kernel
theorem dX9_findings_13 : decode cX9_findings 13 = .ok (.getfield 41, 3) := by decide +kernel
theorem dX9_findings_16 : decode cX9_findings 16 = .ok (.iload_n 1, 1) := by decide +kernel
theorem dX9_findings_17 : decode cX9_findings 17 = .ok (.iaload, 1) := by decide +kernel
theorem dX9_findings_18 : decode cX9_findings 18 = .ok (.goto 4, 3) := by decide +kernel
theorem dX9_findings_21 : decode cX9_findings 21 = .ok (.iconst (-1), 1) := by decide +kernel
theorem dX9_findings_22 : decode cX9_findings 22 = .ok (.ireturn, 1) := by decide +kernel
theorem dX9_digest_0 : decode cX9_digest 0 = .ok (.ldc2_w 322, 3) := by decide +kernel
theorem dX9_digest_3 : decode cX9_digest 3 = .ok (.lstore_n 1, 1) := by decide +kernel
theorem dX9_digest_4 : decode cX9_digest 4 = .ok (.iconst 0, 1) := by decide +kernel
theorem dX9_digest_5 : decode cX9_digest 5 = .ok (.istore_n 3, 1) := by decide +kernel
theorem dX9_digest_6 : decode cX9_digest 6 = .ok (.iload_n 3, 1) := by decide +kernel
theorem dX9_digest_7 : decode cX9_digest 7 = .ok (.bipush 9, 2) := by decide +kernel
theorem dX9_digest_9 : decode cX9_digest 9 = .ok (.if_icmp .ge 22, 3) := by decide +kernel
theorem dX9_digest_12 : decode cX9_digest 12 = .ok (.ldc2_w 324, 3) := by decide +kernel
theorem dX9_digest_15 : decode cX9_digest 15 = .ok (.lload_n 1, 1) := by decide +kernel
theorem dX9_digest_16 : decode cX9_digest 16 = .ok (.lmul, 1) := by decide +kernel
theorem dX9_digest_17 : decode cX9_digest 17 = .ok (.aload_n 0, 1) := by decide +kernel
theorem dX9_digest_18 : decode cX9_digest 18 = .ok (.iload_n 3, 1) := by decide +kernel
theorem dX9_digest_19 : decode cX9_digest 19 = .ok (.invokevirtual 326, 3) := by decide +kernel
theorem dX9_digest_22 : decode cX9_digest 22 = .ok (.i2l, 1) := by decide +kernel
theorem dX9_digest_23 : decode cX9_digest 23 = .ok (.ladd, 1) := by decide +kernel
theorem dX9_digest_24 : decode cX9_digest 24 = .ok (.lstore_n 1, 1) := by decide +kernel
theorem dX9_digest_25 : decode cX9_digest 25 = .ok (.iinc 3 1, 3) := by decide +kernel
theorem dX9_digest_28 : decode cX9_digest 28 = .ok (.goto (-22), 3) := by decide +kernel
theorem dX9_digest_31 : decode cX9_digest 31 = .ok (.iconst 0, 1) := by decide +kernel
theorem dX9_digest_32 : decode cX9_digest 32 = .ok (.istore_n 3, 1) := by decide +kernel
theorem dX9_digest_33 : decode cX9_digest 33 = .ok (.iload_n 3, 1) := by decide +kernel
theorem dX9_digest_34 : decode cX9_digest 34 = .ok (.aload_n 0, 1) := by decide +kernel
theorem dX9_digest_35 : decode cX9_digest 35 = .ok (.getfield 120, 3) := by decide +kernel
theorem dX9_digest_38 : decode cX9_digest 38 = .ok (.if_icmp .ge 40, 3) := by decide +kernel
theorem dX9_digest_41 : decode cX9_digest 41 = .ok (.iconst 0, 1) := by decide +kernel
theorem dX9_digest_42 : decode cX9_digest 42 = .ok (.istore 4, 2) := by decide +kernel
theorem dX9_digest_44 : decode cX9_digest 44 = .ok (.iload 4, 2) := by decide +kernel
theorem dX9_digest_46 : decode cX9_digest 46 = .ok (.bipush 6, 2) := by decide +kernel
theorem dX9_digest_48 : decode cX9_digest 48 = .ok (.if_icmp .ge 24, 3) := by decide +kernel
theorem dX9_digest_51 : decode cX9_digest 51 = .ok (.ldc2_w 324, 3) := by decide +kernel
theorem dX9_digest_54 : decode cX9_digest 54 = .ok (.lload_n 1, 1) := by decide +kernel
theorem dX9_digest_55 : decode cX9_digest 55 = .ok (.lmul, 1) := by decide +kernel
theorem dX9_digest_56 : decode cX9_digest 56 = .ok (.aload_n 0, 1) := by decide +kernel
theorem dX9_digest_57 : decode cX9_digest 57 = .ok (.iload_n 3, 1) := by decide +kernel
theorem dX9_digest_58 : decode cX9_digest 58 = .ok (.iload 4, 2) := by decide +kernel
theorem dX9_digest_60 : decode cX9_digest 60 = .ok (.invokevirtual 184, 3) := by decide +kernel
theorem dX9_digest_63 : decode cX9_digest 63 = .ok (.i2l, 1) := by decide +kernel
theorem dX9_digest_64 : decode cX9_digest 64 = .ok (.ladd, 1) := by decide +kernel
theorem dX9_digest_65 : decode cX9_digest 65 = .ok (.lstore_n 1, 1) := by decide +kernel
theorem dX9_digest_66 : decode cX9_digest 66 = .ok (.iinc 4 1, 3) := by decide +kernel
theorem dX9_digest_69 : decode cX9_digest 69 = .ok (.goto (-25), 3) := by decide +kernel
theorem dX9_digest_72 : decode cX9_digest 72 = .ok (.iinc 3 1, 3) := by decide +kernel
theorem dX9_digest_75 : decode cX9_digest 75 = .ok (.goto (-42), 3) := by decide +kernel
theorem dX9_digest_78 : decode cX9_digest 78 = .ok (.iconst 0, 1) := by decide +kernel
theorem dX9_digest_79 : decode cX9_digest 79 = .ok (.istore_n 3, 1) := by decide +kernel
theorem dX9_digest_80 : decode cX9_digest 80 = .ok (.iload_n 3, 1) := by decide +kernel
theorem dX9_digest_81 : decode cX9_digest 81 = .ok (.iconst 3, 1) := by decide +kernel
theorem dX9_digest_82 : decode cX9_digest 82 = .ok (.if_icmp .ge 23, 3) := by decide +kernel
theorem dX9_digest_85 : decode cX9_digest 85 = .ok (.ldc2_w 324, 3) := by decide +kernel
theorem dX9_digest_88 : decode cX9_digest 88 = .ok (.lload_n 1, 1) := by decide +kernel
theorem dX9_digest_89 : decode cX9_digest 89 = .ok (.lmul, 1) := by decide +kernel
theorem dX9_digest_90 : decode cX9_digest 90 = .ok (.aload_n 0, 1) := by decide +kernel
theorem dX9_digest_91 : decode cX9_digest 91 = .ok (.getfield 56, 3) := by decide +kernel
theorem dX9_digest_94 : decode cX9_digest 94 = .ok (.iload_n 3, 1) := by decide +kernel
theorem dX9_digest_95 : decode cX9_digest 95 = .ok (.iaload, 1) := by decide +kernel
theorem dX9_digest_96 : decode cX9_digest 96 = .ok (.i2l, 1) := by decide +kernel
theorem dX9_digest_97 : decode cX9_digest 97 = .ok (.ladd, 1) := by decide +kernel
theorem dX9_digest_98 : decode cX9_digest 98 = .ok (.lstore_n 1, 1) := by decide +kernel
theorem dX9_digest_99 : decode cX9_digest 99 = .ok (.iinc 3 1, 3) := by decide +kernel
theorem dX9_digest_102 : decode cX9_digest 102 = .ok (.goto (-22), 3) := by decide +kernel
theorem dX9_digest_105 : decode cX9_digest 105 = .ok (.iconst 0, 1) := by decide +kernel
theorem dX9_digest_106 : decode cX9_digest 106 = .ok (.istore_n 3, 1) := by decide +kernel
theorem dX9_digest_107 : decode cX9_digest 107 = .ok (.iload_n 3, 1) := by decide +kernel
theorem dX9_digest_108 : decode cX9_digest 108 = .ok (.bipush 6, 2) := by decide +kernel
theorem dX9_digest_110 : decode cX9_digest 110 = .ok (.if_icmp .ge 63, 3) := by decide +kernel
theorem dX9_digest_113 : decode cX9_digest 113 = .ok (.ldc2_w 324, 3) := by decide +kernel
theorem dX9_digest_116 : decode cX9_digest 116 = .ok (.lload_n 1, 1) := by decide +kernel
theorem dX9_digest_117 : decode cX9_digest 117 = .ok (.lmul, 1) := by decide +kernel
theorem dX9_digest_118 : decode cX9_digest 118 = .ok (.aload_n 0, 1) := by decide +kernel
theorem dX9_digest_119 : decode cX9_digest 119 = .ok (.getfield 44, 3) := by decide +kernel
theorem dX9_digest_122 : decode cX9_digest 122 = .ok (.iload_n 3, 1) := by decide +kernel
theorem dX9_digest_123 : decode cX9_digest 123 = .ok (.iaload, 1) := by decide +kernel
theorem dX9_digest_124 : decode cX9_digest 124 = .ok (.i2l, 1) := by decide +kernel
theorem dX9_digest_125 : decode cX9_digest 125 = .ok (.ladd, 1) := by decide +kernel
theorem dX9_digest_126 : decode cX9_digest 126 = .ok (.lstore_n 1, 1) := by decide +kernel
theorem dX9_digest_127 : decode cX9_digest 127 = .ok (.iconst 0, 1) := by decide +kernel
theorem dX9_digest_128 : decode cX9_digest 128 = .ok (.istore 4, 2) := by decide +kernel
theorem dX9_digest_130 : decode cX9_digest 130 = .ok (.iload 4, 2) := by decide +kernel
theorem dX9_digest_132 : decode cX9_digest 132 = .ok (.aload_n 0, 1) := by decide +kernel
theorem dX9_digest_133 : decode cX9_digest 133 = .ok (.getfield 44, 3) := by decide +kernel
theorem dX9_digest_136 : decode cX9_digest 136 = .ok (.iload_n 3, 1) := by decide +kernel
theorem dX9_digest_137 : decode cX9_digest 137 = .ok (.iaload, 1) := by decide +kernel
theorem dX9_digest_138 : decode cX9_digest 138 = .ok (.if_icmp .ge 29, 3) := by decide +kernel
theorem dX9_digest_141 : decode cX9_digest 141 = .ok (.ldc2_w 324, 3) := by decide +kernel
theorem dX9_digest_144 : decode cX9_digest 144 = .ok (.lload_n 1, 1) := by decide +kernel
theorem dX9_digest_145 : decode cX9_digest 145 = .ok (.lmul, 1) := by decide +kernel
theorem dX9_digest_146 : decode cX9_digest 146 = .ok (.aload_n 0, 1) := by decide +kernel
theorem dX9_digest_147 : decode cX9_digest 147 = .ok (.getfield 47, 3) := by decide +kernel
theorem dX9_digest_150 : decode cX9_digest 150 = .ok (.bipush 40, 2) := by decide +kernel
theorem dX9_digest_152 : decode cX9_digest 152 = .ok (.iload_n 3, 1) := by decide +kernel
theorem dX9_digest_153 : decode cX9_digest 153 = .ok (.imul, 1) := by decide +kernel
theorem dX9_digest_154 : decode cX9_digest 154 = .ok (.iload 4, 2) := by decide +kernel
theorem dX9_digest_156 : decode cX9_digest 156 = .ok (.iadd, 1) := by decide +kernel
theorem dX9_digest_157 : decode cX9_digest 157 = .ok (.iaload, 1) := by decide +kernel
theorem dX9_digest_158 : decode cX9_digest 158 = .ok (.i2l, 1) := by decide +kernel
theorem dX9_digest_159 : decode cX9_digest 159 = .ok (.ladd, 1) := by decide +kernel
theorem dX9_digest_160 : decode cX9_digest 160 = .ok (.lstore_n 1, 1) := by decide +kernel
theorem dX9_digest_161 : decode cX9_digest 161 = .ok (.iinc 4 1, 3) := by decide +kernel
theorem dX9_digest_164 : decode cX9_digest 164 = .ok (.goto (-34), 3) := by decide +kernel
theorem dX9_digest_167 : decode cX9_digest 167 = .ok (.iinc 3 1, 3) := by decide +kernel
theorem dX9_digest_170 : decode cX9_digest 170 = .ok (.goto (-63), 3) := by decide +kernel
theorem dX9_digest_173 : decode cX9_digest 173 = .ok (.iconst 0, 1) := by decide +kernel
theorem dX9_digest_174 : decode cX9_digest 174 = .ok (.istore_n 3, 1) := by decide +kernel
theorem dX9_digest_175 : decode cX9_digest 175 = .ok (.iload_n 3, 1) := by decide +kernel
theorem dX9_digest_176 : decode cX9_digest 176 = .ok (.iconst 4, 1) := by decide +kernel
theorem dX9_digest_177 : decode cX9_digest 177 = .ok (.if_icmp .ge 63, 3) := by decide +kernel
theorem dX9_digest_180 : decode cX9_digest 180 = .ok (.ldc2_w 324, 3) := by decide +kernel
theorem dX9_digest_183 : decode cX9_digest 183 = .ok (.lload_n 1, 1) := by decide +kernel
theorem dX9_digest_184 : decode cX9_digest 184 = .ok (.lmul, 1) := by decide +kernel
theorem dX9_digest_185 : decode cX9_digest 185 = .ok (.aload_n 0, 1) := by decide +kernel
theorem dX9_digest_186 : decode cX9_digest 186 = .ok (.getfield 50, 3) := by decide +kernel
theorem dX9_digest_189 : decode cX9_digest 189 = .ok (.iload_n 3, 1) := by decide +kernel
theorem dX9_digest_190 : decode cX9_digest 190 = .ok (.iaload, 1) := by decide +kernel
theorem dX9_digest_191 : decode cX9_digest 191 = .ok (.i2l, 1) := by decide +kernel
theorem dX9_digest_192 : decode cX9_digest 192 = .ok (.ladd, 1) := by decide +kernel
theorem dX9_digest_193 : decode cX9_digest 193 = .ok (.lstore_n 1, 1) := by decide +kernel
theorem dX9_digest_194 : decode cX9_digest 194 = .ok (.iconst 0, 1) := by decide +kernel
theorem dX9_digest_195 : decode cX9_digest 195 = .ok (.istore 4, 2) := by decide +kernel
theorem dX9_digest_197 : decode cX9_digest 197 = .ok (.iload 4, 2) := by decide +kernel
theorem dX9_digest_199 : decode cX9_digest 199 = .ok (.aload_n 0, 1) := by decide +kernel
theorem dX9_digest_200 : decode cX9_digest 200 = .ok (.getfield 50, 3) := by decide +kernel
theorem dX9_digest_203 : decode cX9_digest 203 = .ok (.iload_n 3, 1) := by decide +kernel
theorem dX9_digest_204 : decode cX9_digest 204 = .ok (.iaload, 1) := by decide +kernel
theorem dX9_digest_205 : decode cX9_digest 205 = .ok (.if_icmp .ge 29, 3) := by decide +kernel
theorem dX9_digest_208 : decode cX9_digest 208 = .ok (.ldc2_w 324, 3) := by decide +kernel
theorem dX9_digest_211 : decode cX9_digest 211 = .ok (.lload_n 1, 1) := by decide +kernel
theorem dX9_digest_212 : decode cX9_digest 212 = .ok (.lmul, 1) := by decide +kernel
theorem dX9_digest_213 : decode cX9_digest 213 = .ok (.aload_n 0, 1) := by decide +kernel
theorem dX9_digest_214 : decode cX9_digest 214 = .ok (.getfield 53, 3) := by decide +kernel
theorem dX9_digest_217 : decode cX9_digest 217 = .ok (.bipush 60, 2) := by decide +kernel
theorem dX9_digest_219 : decode cX9_digest 219 = .ok (.iload_n 3, 1) := by decide +kernel
theorem dX9_digest_220 : decode cX9_digest 220 = .ok (.imul, 1) := by decide +kernel
theorem dX9_digest_221 : decode cX9_digest 221 = .ok (.iload 4, 2) := by decide +kernel
theorem dX9_digest_223 : decode cX9_digest 223 = .ok (.iadd, 1) := by decide +kernel
theorem dX9_digest_224 : decode cX9_digest 224 = .ok (.iaload, 1) := by decide +kernel
theorem dX9_digest_225 : decode cX9_digest 225 = .ok (.i2l, 1) := by decide +kernel
theorem dX9_digest_226 : decode cX9_digest 226 = .ok (.ladd, 1) := by decide +kernel
theorem dX9_digest_227 : decode cX9_digest 227 = .ok (.lstore_n 1, 1) := by decide +kernel
theorem dX9_digest_228 : decode cX9_digest 228 = .ok (.iinc 4 1, 3) := by decide +kernel
theorem dX9_digest_231 : decode cX9_digest 231 = .ok (.goto (-34), 3) := by decide +kernel
theorem dX9_digest_234 : decode cX9_digest 234 = .ok (.iinc 3 1, 3) := by decide +kernel
theorem dX9_digest_237 : decode cX9_digest 237 = .ok (.goto (-62), 3) := by decide +kernel
theorem dX9_digest_240 : decode cX9_digest 240 = .ok (.lload_n 1, 1) := by decide +kernel
theorem dX9_digest_241 : decode cX9_digest 241 = .ok (.lreturn, 1) := by decide +kernel
